/-! undoing, saving, coming back -/
theorem S2_0ne {n k i : Nat} (h0 : n ≠ 0) (h : CRk n k i) : ¬ (S2 0 k i ∨ k = 37 ∨ k = 66) := by
  unfold CRk S2 at h
  unfold S2
  simp only [List.mem_cons, List.mem_nil_iff, or_false] at *
  omega
theorem S2_0k {k i : Nat} (h : k ∈ [0, 1, 2, 5, 6, 7, 8, 9, 10, 11, 20, 48, 49, 50, 51, 52, 56, 57, 60, 65, 68]) : ¬ (S2 0 k i ∨ k = 37 ∨ k = 66) := by
  unfold S2
  simp only [List.mem_cons, List.mem_nil_iff, or_false] at *
  omega
/-- state 0 comes from another state -/
theorem R6.bk {Y Z1 Z2 : Sm} {c tu ro u pos u' pos' : Nat} {P : Pm} {b : Bool} {r' : Nat → Int32} (h : R6 Y c P tu ro u pos b) (g1 : ∀ a, a ≠ 3 → Z1.2 a = Y.2 a) (f1 : ∀ k i, ¬ (S2 0 k i ∨ k = 37 ∨ k = 66) → gI Z1.1 k i = gI Y.1 k i ∧ gJ Z1.1 k i = gJ Y.1 k i) (hs : St Z1 0 P r' c) (z1 : gI Z1.1 37 0 1 = nI pos') (z2 : gI Z1.1 37 0 2 = nI u') (g2 : Z2.2 = Z1.2) (f2 : ∀ k i, ¬ k ∈ [48, 52] → gI Z2.1 k i = gI Z1.1 k i ∧ gJ Z2.1 k i = gJ Z1.1 k i) (d : ∀ x, x ≠ 0 → x ≠ 17 → gI Z2.1 48 0 x = gI Y.1 48 0 x) (e : Eq7 r' (gI Z2.1 52 0)) (z17 : gI Z2.1 48 0 17 = nI u') (hp : pos' < 8 ∧ u' ≤ 8) (hU' : ∀ j, j < u' → St Y (hx pos' u' j) P (rowH Y j) c) : R6 Z2 c P tu ro u' pos' b := by
  obtain ⟨hK, h0, hU, hS, hI, hN⟩ := h
  have hA := hK.a8
  have o : ∀ k i, k ∈ [0, 1, 2, 5, 6, 7, 8, 9, 10, 11, 20, 49, 50, 51, 56, 57, 60, 65, 68] → gI Z2.1 k i = gI Y.1 k i ∧ gJ Z2.1 k i = gJ Y.1 k i := fun k i hk => by
    have k1 : ¬ k ∈ [48, 52] := by
      simp only [List.mem_cons, List.mem_nil_iff, or_false] at *
      omega
    have k2 : k ∈ [0, 1, 2, 5, 6, 7, 8, 9, 10, 11, 20, 48, 49, 50, 51, 52, 56, 57, 60, 65, 68] := by
      simp only [List.mem_cons, List.mem_nil_iff, or_false] at *
      omega
    exact ⟨(f2 k i k1).1.trans (f1 k i (S2_0k k2)).1, (f2 k i k1).2.trans (f1 k i (S2_0k k2)).2⟩
  have nc : ∀ n k i, CRk n k i → ¬ k ∈ [48, 52] := fun n k i hk => by
    unfold CRk S2 at hk
    simp only [List.mem_cons, List.mem_nil_iff, or_false] at *
    omega
  have r0 : Z2.2 0 = Y.2 0 := by rw [g2, g1 0 (by omega)]
  have to2 : ∀ n r, St Z1 n P r c → St Z2 n P r c := fun n r h => h.frk hA.2.2.2 (by rw [g2]) (by rw [g2]) (fun k i hk => (f2 k i (nc n k i hk)).1) (f2 25 n (by decide)).2
  have old : ∀ n r, n ≠ 0 → St Y n P r c → St Z2 n P r c := fun n r hn h => to2 n r (h.frk hA.2.2.2 (g1 0 (by omega)) (g1 _ (by omega)) (fun k i hk => (f1 k i (S2_0ne hn hk)).1) (f1 25 n (S2_0ne hn (Or.inr (Or.inl ⟨rfl, by decide⟩)))).2)
  have e37 : gI Z2.1 37 0 = gI Z1.1 37 0 := (f2 37 0 (by decide)).1
  refine ⟨hK.cg (fun x _ _ => d x (by omega) (by omega)) (o 49 0 (by decide)).1 (d 19 (by omega) (by omega)) r0 (by rw [g2, g1 1 (by omega)]), (to2 0 _ hs).c7 ⟨hA.2.1, hA.2.2.2⟩ e, ⟨hp, by rw [e37]; exact z1, by rw [e37]; exact z2, z17, fun j hj => ?_⟩, ⟨by rw [(o 0 0 (by decide)).1]; exact hS.1, (d 18 (by omega) (by omega)).trans hS.2.1, fun hb => ?_⟩, hI.cg (by rw [(o 1 0 (by decide)).1]) (o 2 0 (by decide)).1 (o 60 0 (by decide)).1 (by rw [(o 0 0 (by decide)).1]) (by rw [(o 0 0 (by decide)).1]) (by rw [(o 0 0 (by decide)).1]) (o 20 0 (by decide)).1 (o 65 0 (by decide)).1 (fun x hx => d x (by omega) (by omega)), hN.cg r0 (o 6 _ (by decide)).2 (o 8 _ (by decide)).2 (o 50 0 (by decide)).2 (o 51 0 (by decide)).2⟩
  · have er : rowH Z2 j = rowH Y j := by
      unfold rowH
      rw [(o 57 0 (by decide)).1]
    rw [er]
    exact old _ _ hx_ne.1 (hU' j hj)
  · rw [(o 56 0 (by decide)).1]
    exact old 2 _ (by omega) (hS.2.2 hb)
theorem ok_38 {Y : Sm} {c : Nat} (h : RR Y c) : Cok fn_326 fn_173 Y c := by
  obtain ⟨P, tu, ro, u, pos, b, h⟩ := h
  have h3 := h.1.a8
  obtain ⟨⟨p1, p2⟩, p3, p4, p5, p6⟩ := h.2.2.1
  rcases Nat.eq_zero_or_pos u with hu | hu
  · subst hu
    refine w_exc (F := fn_142) (x := 2) (k := nI 1) h rfl (by decide) (fun _ => if_pos rfl) ⟨Y, c_undo0 p4, QC.rf⟩ (fun W hq e => ⟨nI 0, sI W 48 0 0 (nI 1), r_undo0 ?_, QM.told, told_at⟩)
    rw [hq.2.2.1 17 (by omega)]; exact p5
  · have hs := p6 (u - 1) (by omega)
    have ehx : hx pos u (u - 1) = pos + 3 := by
      unfold hx
      omega
    rw [ehx] at hs
    obtain ⟨s1, t, n, m, s, hR, hG, ht, hs2⟩ := hs
    obtain ⟨Z, eZ, fZ, cZ, z1, z2⟩ := c_undo1 h3 p1 p3 p4 ⟨hu, p2⟩ hG.2.1.1 hG.2.2.2.2.1 hR
    have gZ : ∀ a, a ≠ 3 → Z.2 a = Y.2 a := fun a ha => by rw [fZ.1, g_sG, ug_ne ha]
    have fk : ∀ k i, ¬ (S2 0 k i ∨ k = 37 ∨ k = 66) → gI Z.1 k i = gI Y.1 k i ∧ gJ Z.1 k i = gJ Y.1 k i := fun k i hk => by
      have hn : ¬ (S2 0 k i ∨ (k = 37 ∧ i = 0)) := fun w => hk (w.elim Or.inl (fun w => Or.inr (Or.inl w.1)))
      exact ⟨(fZ.gI hn).trans (by rw [gI_sG]), (fZ.gJ hn).trans (by rw [gJ_sG])⟩
    generalize hW : sJ Z 66 0 0 (nI (u - 1)).toInt64 = W
    have wI : gI W.1 = gI Z.1 := by rw [← hW, gI_sJ]
    have w48 : gI W.1 48 0 = gI Y.1 48 0 := by rw [wI]; exact (fk 48 0 (S2_0k (by decide))).1
    have w57 : gI W.1 57 0 = gI Y.1 57 0 := by rw [wI]; exact (fk 57 0 (S2_0k (by decide))).1
    have er := r_undo1 (Y := W) ⟨hu, p2⟩ (by rw [w48]; exact p5)
    rw [w57] at er
    generalize hZ2 : sF (sI (sI W 48 0 0 (nI 0)) 48 0 17 (nI (u - 1))) 52 0 (cpy (fun q => gI Y.1 57 0 (718 * (u - 1) + q)) (gI W.1 52 0)) = Z2 at er
    have y48 : gI Z2.1 48 0 = upd (upd (gI Y.1 48 0) 0 (nI 0)) 17 (nI (u - 1)) := by rw [← hZ2, gI_sFk (by omega), gI_sIv, gI_sIv, w48]
    have f2 : ∀ k i, ¬ k ∈ [48, 52] → gI Z2.1 k i = gI W.1 k i ∧ gJ Z2.1 k i = gJ W.1 k i := fun k i hk => by
      simp only [List.mem_cons, List.mem_nil_iff, or_false, not_or] at hk
      refine ⟨?_, by rw [← hZ2]; rfl⟩
      rw [← hZ2, gI_sFk (by omega), gI_sIk (by omega), gI_sIk (by omega)]
    refine ⟨nI 0, W, nI (u - 1), Z2, ?_, er, ?_, ?_, ?_, fun _ => ?_, P, tu, ro, u - 1, (pos + 7) % 8, b, ?_⟩
    · show bx (fn_142 Y) _ _ = _
      rw [eZ, bx_l, wr_t, hW]
    · rw [wI]; exact funext fun i => (fk 68 i (S2_0k (by decide))).1
    · exact funext fun i => (f2 68 i (by decide)).1.trans (by rw [wI]; exact (fk 68 i (S2_0k (by decide))).1)
    · rw [y48, upd_ne (by omega), upd_at]
    · rw [(f2 66 0 (by decide)).2, ← hW, gJ_sJ, if_pos ⟨rfl, rfl, rfl⟩]
    · refine R6.up (c := c) (c' := c + 1) ?_ (by omega)
      have hA8 := h3.2.2.2
      refine h.bk (Z1 := W) (r' := rowH Y (u - 1)) (fun a ha => by rw [← hW]; exact gZ a ha) (fun k i hk => ⟨by rw [wI]; exact (fk k i hk).1, ?_⟩) ?_ (by rw [wI]; exact z1) (by rw [wI]; exact z2) (by rw [← hZ2]; rfl) f2 (fun x h1 h2 => by rw [y48, upd_ne h2, upd_ne h1]) (fun q hq => ?_) (by rw [y48, upd_at]) ⟨by omega, by omega⟩ (fun j hj => ?_)
      · rw [← (fk k i hk).2, ← hW]
        funext q
        rw [gJ_sJ, if_neg (fun z => hk (Or.inr (Or.inr z.1)))]
      · have hst : St Z 0 P (rowH Y (u - 1)) c := ⟨by rw [fZ.1, g_sG, show 0 + 3 = 3 from rfl, ug_at, ug_ne (by omega), s1], t, n, m, s, cZ, hG, ht, hs2⟩
        rw [← hW]
        exact hst.j hA8
      · rw [← hZ2, gI_sFs, cpy_lt hq]
        rfl
      · have e2 : hx ((pos + 7) % 8) (u - 1) j = hx pos u j := by
          unfold hx
          omega
        rw [e2]
        exact p6 j (by omega)
theorem ok_49 {Y : Sm} {c : Nat} (h : RR Y c) : Cok fn_333 fn_175 Y c := by
  obtain ⟨P, tu, ro, u, pos, b, h⟩ := h
  have h3 := h.1.a8
  obtain ⟨s1, s2, s3⟩ := h.2.2.2.1
  obtain ⟨⟨p1, p2⟩, p3, p4, p5, p6⟩ := h.2.2.1
  cases b with
  | false =>
    refine w_exc (F := fn_153) (x := 2) (k := nI 1) h rfl (by decide) (fun _ => if_pos rfl) ⟨Y, c_back0 s1, QC.rf⟩ (fun W hq e => ⟨nI 0, sI W 48 0 0 (nI 1), r_back0 ?_, QM.told, told_at⟩)
    rw [hq.2.2.1 18 (by omega)]; exact s2
  | true =>
    obtain ⟨q1, t, n, m, s, hR, hG, ht, hs2⟩ := s3 rfl
    obtain ⟨A, eA, fA, cA, dA⟩ := c_back1 h3 hG.2.1.1 hG.2.2.2.2.1 s1 hR
    generalize hZ : sI A 37 0 2 (nI 0) = Z at eA cA dA
    have gZ : ∀ a, a ≠ 3 → Z.2 a = Y.2 a := fun a ha => by rw [← hZ, g_sI, fA.1, g_sG, ug_ne ha]
    have fk : ∀ k i, ¬ (S2 0 k i ∨ k = 37 ∨ k = 66) → gI Z.1 k i = gI Y.1 k i ∧ gJ Z.1 k i = gJ Y.1 k i := fun k i hk => by
      have hn : ¬ S2 0 k i := fun w => hk (Or.inl w)
      refine ⟨?_, ?_⟩
      · rw [← hZ, gI_sIk (fun z => hk (Or.inr (Or.inl z)))]
        exact (fA.gI hn).trans (by rw [gI_sG])
      · rw [← hZ, gJ_sI]
        exact (fA.gJ hn).trans (by rw [gJ_sG])
    have a37 : gI A.1 37 0 = gI Y.1 37 0 := (fA.gI (fun w => by
      unfold S2 at w
      simp only [List.mem_cons, List.mem_nil_iff, or_false] at w
      omega)).trans (by rw [gI_sG])
    generalize hW : sJ Z 66 0 0 (gI Y.1 56 0 0).toInt64 = W
    have wI : gI W.1 = gI Z.1 := by rw [← hW, gI_sJ]
    have w48 : gI W.1 48 0 = gI Y.1 48 0 := by rw [wI]; exact (fk 48 0 (S2_0k (by decide))).1
    have w56 : gI W.1 56 0 = gI Y.1 56 0 := by rw [wI]; exact (fk 56 0 (S2_0k (by decide))).1
    have er := r_back1 (Y := W) (by rw [w48]; exact s2)
    rw [w56] at er
    generalize hZ2 : sI (sF (sI W 48 0 0 (nI 0)) 52 0 (cpy (gI Y.1 56 0) (gI W.1 52 0))) 48 0 17 (nI 0) = Z2 at er
    have y48 : gI Z2.1 48 0 = upd (upd (gI Y.1 48 0) 0 (nI 0)) 17 (nI 0) := by rw [← hZ2, gI_sIv, gI_sFk (by omega), gI_sIv, w48]
    have f2 : ∀ k i, ¬ k ∈ [48, 52] → gI Z2.1 k i = gI W.1 k i ∧ gJ Z2.1 k i = gJ W.1 k i := fun k i hk => by
      simp only [List.mem_cons, List.mem_nil_iff, or_false, not_or] at hk
      refine ⟨?_, by rw [← hZ2]; rfl⟩
      rw [← hZ2, gI_sIk (by omega), gI_sFk (by omega), gI_sIk (by omega)]
    refine ⟨nI 0, W, gI Y.1 56 0 0, Z2, ?_, er, ?_, ?_, ?_, fun _ => ?_, P, tu, ro, 0, pos, true, ?_⟩
    · show bx (fn_153 Y) _ _ = _
      rw [eA, bx_l, wr_t, hW]
    · rw [wI]; exact funext fun i => (fk 68 i (S2_0k (by decide))).1
    · exact funext fun i => (f2 68 i (by decide)).1.trans (by rw [wI]; exact (fk 68 i (S2_0k (by decide))).1)
    · rw [y48, upd_ne (by omega), upd_at]
    · rw [(f2 66 0 (by decide)).2, ← hW, gJ_sJ, if_pos ⟨rfl, rfl, rfl⟩]
    · refine R6.up (c := c) (c' := c + 1) ?_ (by omega)
      have hA8 := h3.2.2.2
      refine h.bk (Z1 := W) (r' := gI Y.1 56 0) (fun a ha => by rw [← hW]; exact gZ a ha) (fun k i hk => ⟨by rw [wI]; exact (fk k i hk).1, ?_⟩) ?_ (by rw [wI, ← hZ, gI_sIv, upd_ne (by omega), a37]; exact p3) (by rw [wI, ← hZ, gI_sIv, upd_at]) (by rw [← hZ2]; rfl) f2 (fun x h1 h2 => by rw [y48, upd_ne h2, upd_ne h1]) (fun q hq => ?_) (by rw [y48, upd_at]) ⟨p1, by omega⟩ (fun j hj => by omega)
      · rw [← (fk k i hk).2, ← hW]
        funext q
        rw [gJ_sJ, if_neg (fun z => hk (Or.inr (Or.inr z.1)))]
      · have hst : St Z 0 P (gI Y.1 56 0) c := ⟨by rw [← hZ, g_sI, fA.1, g_sG, show 0 + 3 = 3 from rfl, ug_at, ug_ne (by omega)]; exact q1, t, n, m, s, cA, hG, ht, hs2⟩
        rw [← hW]
        exact hst.j hA8
      · rw [← hZ2, gI_sIk (by omega), gI_sFs, cpy_lt hq]
theorem ok_48 {Y : Sm} {c : Nat} (h : RR Y c) : Sok fn_152 fn_174 Y c := by
  obtain ⟨P, tu, ro, u, pos, b, h⟩ := h
  have h3 := h.1.a8
  have hA8 := h3.2.2.2
  obtain ⟨e0, t, n, m, s, hR, hG, ht, hs2⟩ := h.cl
  obtain ⟨A, eA, fA, cA, dA⟩ := c_save h3 hG.2.1.1 hG.2.2.2.2.1 hR
  generalize hZ : sI A 0 0 11 (nI 1) = Z at eA cA dA
  have gZ : ∀ a, a ≠ 5 → Z.2 a = Y.2 a := fun a ha => by rw [← hZ, g_sI, fA.1, g_sG, ug_ne ha]
  have fk : ∀ k i, ¬ (S2 2 k i ∨ k = 0) → gI Z.1 k i = gI Y.1 k i ∧ gJ Z.1 k i = gJ Y.1 k i := fun k i hk => by
    have hn : ¬ S2 2 k i := fun w => hk (Or.inl w)
    refine ⟨?_, ?_⟩
    · rw [← hZ, gI_sIk (fun z => hk (Or.inr z))]
      exact (fA.gI hn).trans (by rw [gI_sG])
    · rw [← hZ, gJ_sI]
      exact (fA.gJ hn).trans (by rw [gJ_sG])
  have sk : ∀ k i, k ∈ [1, 2, 5, 6, 7, 8, 9, 10, 11, 20, 37, 48, 49, 50, 51, 52, 56, 57, 60, 65, 66, 68] → ¬ (S2 2 k i ∨ k = 0) := fun k i h => by
    unfold S2
    simp only [List.mem_cons, List.mem_nil_iff, or_false] at *
    omega
  have sn : ∀ n k i, n ≠ 2 → CRk n k i → ¬ (S2 2 k i ∨ k = 0) := fun n k i hn h => by
    unfold CRk S2 at h
    unfold S2
    simp only [List.mem_cons, List.mem_nil_iff, or_false] at *
    omega
  have z0 : ∀ x, x ≠ 11 → gI Z.1 0 0 x = gI Y.1 0 0 x := fun x hx => by
    rw [← hZ, gI_sIv, upd_ne hx]
    have : gI A.1 0 0 = gI Y.1 0 0 := (fA.gI (fun w => by
      unfold S2 at w
      simp only [List.mem_cons, List.mem_nil_iff, or_false] at w
      omega)).trans (by rw [gI_sG])
    rw [this]
  have er := r_save Z
  have w52 : gI Z.1 52 0 = gI Y.1 52 0 := (fk 52 0 (sk 52 0 (by decide))).1
  have w48 : gI Z.1 48 0 = gI Y.1 48 0 := (fk 48 0 (sk 48 0 (by decide))).1
  rw [w52] at er
  generalize hZ2 : sI (sF (sI Z 48 0 0 (nI 0)) 56 0 (cpy (gI Y.1 52 0) (gI Z.1 56 0))) 48 0 18 (nI 1) = Z2 at er
  have y48 : gI Z2.1 48 0 = upd (upd (gI Y.1 48 0) 0 (nI 0)) 18 (nI 1) := by rw [← hZ2, gI_sIv, gI_sFk (by omega), gI_sIv, w48]
  have f2 : ∀ k i, ¬ k ∈ [48, 56] → gI Z2.1 k i = gI Z.1 k i ∧ gJ Z2.1 k i = gJ Z.1 k i := fun k i hk => by
    simp only [List.mem_cons, List.mem_nil_iff, or_false, not_or] at hk
    refine ⟨?_, by rw [← hZ2]; rfl⟩
    rw [← hZ2, gI_sIk (by omega), gI_sFk (by omega), gI_sIk (by omega)]
  have y56 : gI Z2.1 56 0 = cpy (gI Y.1 52 0) (gI Z.1 56 0) := by rw [← hZ2, gI_sIk (by omega), gI_sFs]
  have nc : ∀ n k i, CRk n k i → ¬ k ∈ [48, 56] := fun n k i hk => by
    unfold CRk S2 at hk
    simp only [List.mem_cons, List.mem_nil_iff, or_false] at *
    omega
  have g2 : Z2.2 = Z.2 := by rw [← hZ2]; rfl
  have to2 : ∀ n r, St Z n P r c → St Z2 n P r c := fun n r h => h.frk hA8 (by rw [g2]) (by rw [g2]) (fun k i hk => (f2 k i (nc n k i hk)).1) (f2 25 n (by decide)).2
  have old : ∀ n r, n ≠ 2 → St Y n P r c → St Z2 n P r c := fun n r hn h => to2 n r (h.frk hA8 (gZ 0 (by omega)) (gZ _ (by omega)) (fun k i hk => (fk k i (sn n k i hn hk)).1) (fk 25 n (sn n 25 n hn (Or.inr (Or.inl ⟨rfl, by decide⟩)))).2)
  have o : ∀ k i, k ∈ [1, 2, 5, 6, 7, 8, 9, 10, 11, 20, 37, 49, 50, 51, 52, 57, 60, 65, 66, 68] → gI Z2.1 k i = gI Y.1 k i ∧ gJ Z2.1 k i = gJ Y.1 k i := fun k i hk => by
    have k1 : ¬ k ∈ [48, 56] := by
      simp only [List.mem_cons, List.mem_nil_iff, or_false] at *
      omega
    have k2 : k ∈ [1, 2, 5, 6, 7, 8, 9, 10, 11, 20, 37, 48, 49, 50, 51, 52, 56, 57, 60, 65, 66, 68] := by
      simp only [List.mem_cons, List.mem_nil_iff, or_false] at *
      omega
    exact ⟨(f2 k i k1).1.trans (fk k i (sk k i k2)).1, (f2 k i k1).2.trans (fk k i (sk k i k2)).2⟩
  have x0 : ∀ x, x ≠ 11 → gI Z2.1 0 0 x = gI Y.1 0 0 x := fun x hx => by rw [(f2 0 0 (by decide)).1]; exact z0 x hx
  have d : ∀ x, x ≠ 0 → x ≠ 18 → gI Z2.1 48 0 x = gI Y.1 48 0 x := fun x h1 h2 => by rw [y48, upd_ne h2, upd_ne h1]
  have r0 : Z2.2 0 = Y.2 0 := by rw [g2, gZ 0 (by omega)]
  refine ⟨gI Y.1 52 0 0, Z, Z2, eA, er, funext fun i => (fk 68 i (sk 68 i (by decide))).1, funext fun i => (o 68 i (by decide)).1, P, tu, ro, u, pos, true, ?_⟩
  refine R6.up (c := c) (c' := c + 1) ?_ (by omega)
  obtain ⟨hK, h0, hU, hS, hI, hN⟩ := h
  obtain ⟨⟨p1, p2⟩, p3, p4, p5, p6⟩ := hU
  refine ⟨hK.cg (fun x _ _ => d x (by omega) (by omega)) (o 49 0 (by decide)).1 (d 19 (by omega) (by omega)) r0 (by rw [g2, gZ 1 (by omega)]), ?_, ⟨⟨p1, p2⟩, by rw [(o 37 0 (by decide)).1]; exact p3, by rw [(o 37 0 (by decide)).1]; exact p4, (d 17 (by omega) (by omega)).trans p5, fun j hj => ?_⟩, ⟨?_, by rw [y48, upd_at]; rfl, fun _ => ?_⟩, hI.cg (by rw [(o 1 0 (by decide)).1]) (o 2 0 (by decide)).1 (o 60 0 (by decide)).1 (x0 3 (by omega)) (x0 4 (by omega)) (x0 5 (by omega)) (o 20 0 (by decide)).1 (o 65 0 (by decide)).1 (fun x hx => d x (by omega) (by omega)), hN.cg r0 (o 6 _ (by decide)).2 (o 8 _ (by decide)).2 (o 50 0 (by decide)).2 (o 51 0 (by decide)).2⟩
  · rw [(o 52 0 (by decide)).1]
    exact old 0 _ (by omega) h0
  · have er2 : rowH Z2 j = rowH Y j := by
      unfold rowH
      rw [(o 57 0 (by decide)).1]
    rw [er2]
    exact old _ _ hx_ne.2.2 (p6 j hj)
  · rw [(f2 0 0 (by decide)).1, ← hZ, gI_sIv, upd_at]; rfl
  · rw [y56]
    refine (to2 2 (gI Y.1 52 0) ⟨?_, t, n, m, s, dA, hG, ht, hs2⟩).c7 ⟨h3.2.1, h3.2.2.2⟩ (fun q hq => cpy_lt hq)
    rw [← hZ, g_sI, fA.1, g_sG, show 2 + 3 = 5 from rfl, ug_at, ug_ne (by omega)]
    exact e0
