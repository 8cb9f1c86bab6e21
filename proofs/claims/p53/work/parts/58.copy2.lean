/-! a state of the class copied into another: the rest, and the whole -/
theorem c_72d {Y : Sm} {i0 i1 : Nat} (hne : i0 ≠ i1) : ∃ Z, fn_72_J148 i0 i1 Y = some ((), Z) ∧ Fr (S2 i0) Y Z ∧ (∀ k, ¬ k ∈ [12, 14, 15, 16, 17, 18, 19, 29, 30, 31, 32, 33, 34, 35, 36] → gI Z.1 k = gI Y.1 k) ∧ gJ Z.1 = gJ Y.1 ∧ (∀ K a, K ∈ [29, 30, 31, 32, 33, 34] → a < 8 → gI Z.1 K i0 a = gI Y.1 K i1 a) ∧ (gI Z.1 12 (i0 + 3) 1 = gI Y.1 12 (i1 + 3) 1 ∧ gI Z.1 12 (i0 + 3) 2 = gI Y.1 12 (i1 + 3) 2) ∧ (∀ K j, K ∈ [14, 15, 16, 17, 18, 19] → j < 40 → gI Z.1 K (i0 + 3) j = gI Y.1 K (i1 + 3) j) ∧ (gI Z.1 35 i0 1 = gI Y.1 35 i1 1 ∧ gI Z.1 35 i0 2 = gI Y.1 35 i1 2) ∧ (∀ j, j < 360 → gI Z.1 36 i0 j = gI Y.1 36 i1 j) := by
  have hne2 : i1 ≠ i0 := fun z => hne z.symm
  have hne3 : i1 + 3 ≠ i0 + 3 := fun z => hne2 (by omega)
  have mu : ∀ K, K ∈ [21, 22, 23, 24, 25, 29, 30, 31, 32, 33, 34, 35, 36] → S2 i0 K i0 := fun K hK => Or.inl ⟨rfl, hK⟩
  have mq : ∀ K, K ∈ [12, 14, 15, 16, 17, 18, 19] → S2 i0 K (i0 + 3) := fun K hK => Or.inr (Or.inl ⟨rfl, hK⟩)
  unfold fn_72_J148 fn_2 fn_35 fn_10
  simp only [wr_t, bd_t, sC_sF]
  refine ⟨_, rfl, (Fr.sF (mu 29 (by decide))).tr ((Fr.sF (mu 30 (by decide))).tr ((Fr.sF (mu 31 (by decide))).tr ((Fr.sF (mu 32 (by decide))).tr ((Fr.sF (mu 33 (by decide))).tr ((Fr.sF (mu 34 (by decide))).tr ((Fr.sI (mq 12 (by decide))).tr ((Fr.sI (mq 12 (by decide))).tr ((Fr.sF (mq 14 (by decide))).tr ((Fr.sF (mq 15 (by decide))).tr ((Fr.sF (mq 16 (by decide))).tr ((Fr.sF (mq 17 (by decide))).tr ((Fr.sF (mq 18 (by decide))).tr ((Fr.sF (mq 19 (by decide))).tr ((Fr.sI (mu 35 (by decide))).tr ((Fr.sI (mu 35 (by decide))).tr (Fr.sF (mu 36 (by decide)))))))))))))))))), fun k hk => ?_, rfl, fun K a hK ha => ?_, ⟨?_, ?_⟩, fun K j hK hj => ?_, ⟨?_, ?_⟩, fun j hj => ?_⟩
  · simp only [List.mem_cons, List.mem_nil_iff, or_false, not_or] at hk
    simp (disch := omega) only [gI_sFk, gI_sIk]
  · simp only [List.mem_cons, List.mem_nil_iff, or_false] at hK
    rcases hK with rfl | rfl | rfl | rfl | rfl | rfl <;> simp (disch := omega) only [gI_sFk, gI_sIk, gI_sFs, cp0]
  · simp (disch := omega) only [gI_sFk, gI_sIk, gI_sIi, gI_sIv, upd_ne, upd_at, iteN_t, iteN_f, ↓reduceIte]
  · simp (disch := omega) only [gI_sFk, gI_sIk, gI_sIi, gI_sIv, upd_ne, upd_at, iteN_t, iteN_f, ↓reduceIte]
  · simp only [List.mem_cons, List.mem_nil_iff, or_false] at hK
    rcases hK with rfl | rfl | rfl | rfl | rfl | rfl <;> simp (disch := omega) only [gI_sFk, gI_sIk, gI_sFs, cp0]
  · simp (disch := omega) only [gI_sFk, gI_sIk, gI_sIi, gI_sIv, upd_ne, upd_at, iteN_t, iteN_f, ↓reduceIte]
  · simp (disch := omega) only [gI_sFk, gI_sIk, gI_sIi, gI_sIv, upd_ne, upd_at, iteN_t, iteN_f, ↓reduceIte]
  · simp (disch := omega) only [gI_sFk, gI_sIk, gI_sFs, cp0]
theorem c_72 {Y : Sm} {i0 i1 q m : Nat} {P : Pm} {r : Nat → Int32} (hne : i0 ≠ i1) (h3 : 0 < P.1 ∧ P.1 ≤ 5 ∧ 0 < P.2.1 ∧ P.2.1 ≤ 8) (hq : q ≤ 40) (hb : r 3 = nI 0 ∨ r 3 = nI 1) (h : CR Y i1 P r q m) : ∃ Z, fn_72 i0 i1 Y = some ((), Z) ∧ Fr (S2 i0) (sG Y (i0 + 3) (Y.2 (i1 + 3))) Z ∧ CR Z i0 P r q m := by
  have hbz : bz (gI Y.1 21 i1 4) = true := by
    rw [h.a 3 (by omega)]
    rcases hb with e | e <;> rw [e] <;> decide
  obtain ⟨B, eB, fB, b1, b2⟩ := c_72a hne hbz
  obtain ⟨W, eW, fW, w1⟩ := c_72l (Y := B) hne
  obtain ⟨Z, eZ, fZ, z1, z2, z3, z4, z5, z6, z7⟩ := c_72d (Y := W) hne
  have fW' : Fr (S2 i0) B W := fW.up (fun k i hk => Or.inr (Or.inr hk))
  have fA := (fB.tr fW').tr fZ
  have gW : ∀ k i, k ≠ 27 → gI W.1 k i = gI B.1 k i := fun k i hk => fW.gI (fun z => hk z.1)
  have gB : ∀ k i, ¬ S2 i0 k i → gI B.1 k i = gI Y.1 k i := fun k i hk => (fB.gI hk).trans (by rw [gI_sG])
  have nS : ∀ K, ¬ K ∈ [12, 14, 15, 16, 17, 18, 19] → K ≠ 27 → gI B.1 K i1 = gI Y.1 K i1 := fun K h1 h2 => gB K i1 (fun z => by
    rcases z with ⟨z, _⟩ | ⟨_, z⟩ | ⟨z, _⟩
    · exact hne z.symm
    · exact h1 z
    · exact h2 z)
  have nQ : ∀ K, K ∈ [12, 14, 15, 16, 17, 18, 19] → gI B.1 K (i1 + 3) = gI Y.1 K (i1 + 3) := fun K h1 => gB K (i1 + 3) (fun z => by
    simp only [List.mem_cons, List.mem_nil_iff, or_false] at h1
    rcases z with ⟨_, z⟩ | ⟨z, _⟩ | ⟨z, _⟩
    · simp only [List.mem_cons, List.mem_nil_iff, or_false] at z
      omega
    · omega
    · omega)
  have nB : ∀ a, a < 8 → gI B.1 27 (8 * i1 + a) = gI Y.1 27 (8 * i1 + a) := fun a ha => gB 27 _ (fun z => by
    rcases z with ⟨_, z⟩ | ⟨_, z⟩ | ⟨_, z1, z2⟩
    · exact absurd z (by decide)
    · exact absurd z (by decide)
    · omega)
  have nP : ∀ K i, K ∈ [5, 10, 11] → gI Z.1 K i = gI Y.1 K i := fun K i hK => by
    have hK' := hK
    simp only [List.mem_cons, List.mem_nil_iff, or_false] at hK'
    refine (fA.gI (fun z => ?_)).trans (by rw [gI_sG])
    rcases z with ⟨_, z⟩ | ⟨_, z⟩ | ⟨z, _⟩
    · simp only [List.mem_cons, List.mem_nil_iff, or_false] at z
      omega
    · simp only [List.mem_cons, List.mem_nil_iff, or_false] at z
      omega
    · omega
  refine ⟨Z, ?_, fA, ?_, fun x hx => ?_, ⟨⟨?_, ?_⟩, fun j hj => ?_⟩, fun k hk => ?_, fun a ha => ?_, fun a p ha hp => ?_, ⟨⟨?_, ?_⟩, fun j w hj hm hw => ?_⟩⟩
  · rw [eB, eW]
    exact eZ
  · have e : Z.2 (i0 + 3) = Y.2 (i1 + 3) := by
      rw [fA.1, g_sG, ug_at]
    rw [e]
    exact h.p.cg (nP _ _ (by decide)) (nP _ _ (by decide)) (nP _ _ (by decide))
  · rw [z1 21 (by decide), gW 21 i0 (by omega), b1 x hx]
    exact h.a x hx
  · rw [z4.1, gW _ _ (by omega), nQ 12 (by decide)]; exact h.q.1.1
  · rw [z4.2, gW _ _ (by omega), nQ 12 (by decide)]; exact h.q.1.2
  · rw [z5 19 j (by decide) (by omega), z5 14 j (by decide) (by omega), z5 15 j (by decide) (by omega), z5 16 j (by decide) (by omega), z5 17 j (by decide) (by omega), z5 18 j (by decide) (by omega), gW 19 _ (by omega), gW 14 _ (by omega), gW 15 _ (by omega), gW 16 _ (by omega), gW 17 _ (by omega), gW 18 _ (by omega), nQ 19 (by decide), nQ 14 (by decide), nQ 15 (by decide), nQ 16 (by decide), nQ 17 (by decide), nQ 18 (by decide)]
    exact h.q.2 j hj
  · obtain ⟨c1, c2, c3, c4⟩ := b2 k (by omega)
    rw [z1 22 (by decide), z1 23 (by decide), z1 24 (by decide), z2, gW 22 _ (by omega), gW 23 _ (by omega), gW 24 _ (by omega), fW.gJ (k := 25) (i := i0) (fun z => absurd z.1 (by omega)), c1, c2, c3, c4]
    exact h.k k hk
  · rw [z3 29 a (by decide) (by omega), z3 30 a (by decide) (by omega), z3 31 a (by decide) (by omega), z3 34 a (by decide) (by omega), z3 32 a (by decide) (by omega), z3 33 a (by decide) (by omega), gW 29 _ (by omega), gW 30 _ (by omega), gW 31 _ (by omega), gW 34 _ (by omega), gW 32 _ (by omega), gW 33 _ (by omega), nS 29 (by decide) (by omega), nS 30 (by decide) (by omega), nS 31 (by decide) (by omega), nS 34 (by decide) (by omega), nS 32 (by decide) (by omega), nS 33 (by decide) (by omega)]
    exact h.u a ha
  · rw [z1 27 (by decide), w1 a p (by omega) (by omega), nB a (by omega)]
    exact h.b a p ha hp
  · rw [z6.1, gW _ _ (by omega), nS 35 (by decide) (by omega)]; exact h.l.1.1
  · rw [z6.2, gW _ _ (by omega), nS 35 (by decide) (by omega)]; exact h.l.1.2
  · rw [z7 (6 * j + w) (by omega), gW _ _ (by omega), nS 36 (by decide) (by omega)]
    exact h.l.2 j w hj hm hw

