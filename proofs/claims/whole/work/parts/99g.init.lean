/-! where reading begins -/
def stD (j : Nat) : Nat := ([3, 6, 10, 0, 3] : List Nat).getD j 0
theorem stD_b : ∀ j, j < 5 → stL j ≤ stD j ∧ stD j ≤ stH j := by decide
theorem p_ic {Y : Sm} {L d : Nat} {B : Nat → Nat} (h : Tx Y L B) : ∃ X, fn_59 d Y = (exd (lp (fun s => fn_59_L36 s.1 s.2) FU (nI 0, X)) fun s9 => fn_59_J78 s9) ∧ Fr (SD d) (sG Y 2 d) X ∧ TkC X L B (rn L B isBl 0) ∧ (gI X.1 3 0 2 = nI 0 ∧ gI X.1 3 0 3 = nI 0 ∧ gI X.1 3 0 4 = (-1 : Int32)) ∧ (gI X.1 5 d 0 = nI 0 ∧ gI X.1 5 d 3 = nI 0 ∧ gI X.1 5 d 7 = nI 0) ∧ (gI X.1 12 d 1 = nI 0 ∧ gI X.1 12 d 2 = (-1 : Int32)) ∧ ∀ j, j < 5 → gI X.1 11 d j = nI (stD j) := by
  have hL := h.1
  have e2 : (sG Y 2 d).2 2 = d := by rw [g_sG, ug_at]
  unfold fn_59
  rw [wr_t, e2]
  unfold fn_52 fn_34 fn_53
  rw [wr_t, wr_t, wr_t, wr_t, wr_t, bd_t, wr_t, wr_t, wr_t, wr_t, wr_t, bd_t, bd_t, wr_t, wr_t, wr_t]
  unfold fn_94
  rw [wr_t]
  generalize hX0 : sI (sI (sI (sI (sI (sI (sI (sI (sI (sI (sI (sI (sI (sI (sG Y 2 d) 5 d 0 (nI 0)) 5 d 3 (nI 0)) 5 d 7 (nI 0)) 12 d 1 (nI 0)) 12 d 2 (-1 : Int32)) 11 d 0 (nI 3)) 11 d 1 (nI 6)) 11 d 2 (nI 10)) 11 d 3 (nI 0)) 11 d 4 (nI 3)) 3 0 2 (nI 0)) 3 0 3 (nI 0)) 3 0 4 (-1 : Int32)) 4 0 3 (nI 0) = X0
  have m : ∀ k, k ∈ [5, 6, 7, 8, 9, 10, 11, 12, 14, 15, 16, 17, 18, 19] → SD d k d := fun k hk => SDm hk
  have m3 : SD d 3 0 := Or.inl (by decide)
  have m4 : SD d 4 0 := Or.inl (by decide)
  have f0 : Fr (SD d) (sG Y 2 d) X0 := by
    rw [← hX0]
    exact (((((((((((((Fr.sI (m 5 (by decide))).tr (Fr.sI (m 5 (by decide)))).tr (Fr.sI (m 5 (by decide)))).tr (Fr.sI (m 12 (by decide)))).tr (Fr.sI (m 12 (by decide)))).tr (Fr.sI (m 11 (by decide)))).tr (Fr.sI (m 11 (by decide)))).tr (Fr.sI (m 11 (by decide)))).tr (Fr.sI (m 11 (by decide)))).tr (Fr.sI (m 11 (by decide)))).tr (Fr.sI m3)).tr (Fr.sI m3)).tr (Fr.sI m3)).tr (Fr.sI m4)
  have n12 : ∀ k, k = 1 ∨ k = 2 → gI X0.1 k 0 = gI Y.1 k 0 := fun k hk => by
    rw [f0.gI (fun q => by
      unfold SD at q
      simp only [List.mem_cons, List.mem_nil_iff, or_false] at q
      omega), gI_sG]
  have hT : Tx X0 L B := h.cg (by rw [n12 1 (by omega)]) (n12 2 (by omega))
  have x3 : gI X0.1 3 0 2 = nI 0 ∧ gI X0.1 3 0 3 = nI 0 ∧ gI X0.1 3 0 4 = (-1 : Int32) := by
    rw [← hX0]
    simp (disch := omega) only [gI_sIk, gI_sIv, upd_ne, upd_at]
    exact ⟨trivial, trivial, trivial⟩
  have x5 : gI X0.1 5 d 0 = nI 0 ∧ gI X0.1 5 d 3 = nI 0 ∧ gI X0.1 5 d 7 = nI 0 := by
    rw [← hX0]
    simp (disch := omega) only [gI_sIk, gI_sIv, upd_ne, upd_at]
    exact ⟨trivial, trivial, trivial⟩
  have x12 : gI X0.1 12 d 1 = nI 0 ∧ gI X0.1 12 d 2 = (-1 : Int32) := by
    rw [← hX0]
    simp (disch := omega) only [gI_sIk, gI_sIv, upd_ne, upd_at]
    exact ⟨trivial, trivial⟩
  have x11 : ∀ j, j < 5 → gI X0.1 11 d j = nI (stD j) := fun j hj => by
    have hj' : j = 0 ∨ j = 1 ∨ j = 2 ∨ j = 3 ∨ j = 4 := by omega
    rw [← hX0]
    simp (disch := omega) only [gI_sIk, gI_sIv]
    rcases hj' with rfl | rfl | rfl | rfl | rfl <;> rfl
  have x4 : gI X0.1 4 0 3 = nI 0 := by rw [← hX0, gI_sIv, upd_at]
  obtain ⟨X, eX, fX, z1, z2, z3⟩ := c_95 hT (Nat.zero_le L) x4
  have g : ∀ k i, k ≠ 4 → gI X.1 k i = gI X0.1 k i := fun k i hk => fX.gI (fun q => by
    unfold KS at q
    simp only [List.mem_cons, List.mem_nil_iff, or_false] at q
    exact hk q)
  rw [eX, bd_t, bd_t]
  refine ⟨X, rfl, f0.tr fX.d4, ⟨hT.cg (by rw [g 1 0 (by omega)]) (g 2 0 (by omega)), rn_le (Nat.zero_le L), z1, z2, z3⟩, ?_, ?_, ?_, fun j hj => ?_⟩
  · rw [g 3 0 (by omega)]; exact x3
  · rw [g 5 d (by omega)]; exact x5
  · rw [g 12 d (by omega)]; exact x12
  · rw [g 11 d (by omega)]; exact x11 j hj
/-- what the reference's reading may change -/
def FrI (W Z : Sm) : Prop := Z.2 = W.2 ∧ (∀ k i, ¬ k ∈ [48, 53, 61, 62, 63, 64] → gI Z.1 k i = gI W.1 k i ∧ gJ Z.1 k i = gJ W.1 k i) ∧ ∀ x, x ≠ 0 → ¬ (23 ≤ x ∧ x ≤ 35) → gI Z.1 48 0 x = gI W.1 48 0 x
theorem FrI.tr {W X Z : Sm} (h : FrI W X) (h2 : FrI X Z) : FrI W Z := ⟨h2.1.trans h.1, fun k i hk => ⟨(h2.2.1 k i hk).1.trans (h.2.1 k i hk).1, (h2.2.1 k i hk).2.trans (h.2.1 k i hk).2⟩, fun x h0 hx => (h2.2.2 x h0 hx).trans (h.2.2 x h0 hx)⟩
theorem FrW.i {W Z : Sm} (h : FrW W Z) : FrI W Z := ⟨h.1, h.2.1, fun x _ hx => h.2.2 x (by omega)⟩
theorem FrI.s48 {W : Sm} {x : Nat} {v : Int32} (hx : x = 0 ∨ (23 ≤ x ∧ x ≤ 35)) : FrI W (sI W 48 0 x v) := ⟨rfl, fun k i hk => ⟨by rw [gI_sIk (fun q => hk (by rw [q]; decide))], rfl⟩, fun y h0 hy => by rw [gI_sIv, upd_ne (fun q => by rw [q] at h0 hy; omega)]⟩
theorem FrI.sk {W : Sm} {k i x : Nat} {v : Int32} (hk : k ∈ [53, 61, 62, 63, 64]) : FrI W (sI W k i x v) := (FrW.sk hk).i
theorem FrI.sf {W : Sm} {f : Nat → Int32} : FrI W (sF W 53 0 f) := ⟨rfl, fun k i hk => ⟨by rw [gI_sFk (fun q => hk (by rw [q]; decide))], rfl⟩, fun y h0 hy => by rw [gI_sFk (by omega)]⟩
theorem r_268 (W : Sm) : fn_268 W = some ((), sI (sF (sI (sI (sI (sI (sI (sI (sI (sI W 48 0 33 (nI 0)) 48 0 34 (nI 0)) 48 0 35 (nI 0)) 61 0 0 (nI 3)) 61 0 1 (nI 6)) 61 0 2 (nI 10)) 61 0 3 (nI 0)) 61 0 4 (nI 3)) 53 0 (fun q => if q < 718 then nI 0 else gI W.1 53 0 q)) 53 0 8 (-1 : Int32)) := by
  unfold fn_268
  rw [wr_t, wr_t, wr_t, wr_t, wr_t, wr_t, wr_t, wr_t]
  generalize hV : sI (sI (sI (sI (sI (sI (sI (sI W 48 0 33 (nI 0)) 48 0 34 (nI 0)) 48 0 35 (nI 0)) 61 0 0 (nI 3)) 61 0 1 (nI 6)) 61 0 2 (nI 10)) 61 0 3 (nI 0)) 61 0 4 (nI 3) = V
  have e53 : gI V.1 53 0 = gI W.1 53 0 := by
    rw [← hV]
    simp (disch := omega) only [gI_sIk]
  rw [← e53]
  refine lp_run (fun j => (nI j, sF V 53 0 (fun q => if q < j then nI 0 else gI V.1 53 0 q))) 718 (FU_lt (by omega)) (fun j hj => ?_) ?_ ?_
  · simp only [fn_268_L54]
    rw [iteI_le_f hj (by omega), ck_in hj (by omega), ix_nI (by omega), wr_t, sI_s, nI_add]
    congr 4
    funext q
    by_cases c : q = j
    · rw [c, upd_at, if_pos (by omega)]
    · rw [upd_ne c]
      by_cases d : q < j
      · rw [if_pos d, if_pos (by omega)]
      · rw [if_neg d, if_neg (by omega)]
  · simp only [fn_268_L54]
    rw [iteI_le_t (Nat.le_refl _) (by omega), wr_t]
  · show _ = (nI 0, sF V 53 0 (fun q => if q < 0 then nI 0 else gI V.1 53 0 q))
    have : (fun q => if q < 0 then nI 0 else gI V.1 53 0 q) = gI V.1 53 0 := funext fun q => if_neg (by omega)
    rw [this, sF_self]
theorem p_im {W : Sm} {L : Nat} {B : Nat → Nat} (hL : L ≤ 500) (h23 : gI W.1 48 0 23 = nI L) (hB : ∀ j, j < L → B j < 256 ∧ gI W.1 60 0 j = sb (B j)) : ∃ Z, fn_292 W = (exd (lp (fun s => fn_292_L41 s) FU Z) fun s9 => fn_292_J62 s9) ∧ FrI W Z ∧ TkM Z L B (rn L B isBl 0) ∧ (gI Z.1 48 0 31 = nI 0 ∧ gI Z.1 48 0 32 = (-1 : Int32) ∧ gI Z.1 48 0 33 = nI 0 ∧ gI Z.1 48 0 34 = nI 0 ∧ gI Z.1 48 0 35 = nI 0 ∧ gI Z.1 48 0 23 = nI 0) ∧ (∀ q, q < 718 → q ≠ 8 → gI Z.1 53 0 q = nI 0) ∧ gI Z.1 53 0 8 = (-1 : Int32) ∧ ∀ j, j < 5 → gI Z.1 61 0 j = nI (stD j) := by
  unfold fn_292
  rw [wr_t, wr_t, wr_t, r_268, bd_t]
  generalize hV : sI (sI (sI W 48 0 0 (nI 0)) 48 0 31 (nI 0)) 48 0 32 (-1 : Int32) = V
  generalize hU : sI (sF (sI (sI (sI (sI (sI (sI (sI (sI V 48 0 33 (nI 0)) 48 0 34 (nI 0)) 48 0 35 (nI 0)) 61 0 0 (nI 3)) 61 0 1 (nI 6)) 61 0 2 (nI 10)) 61 0 3 (nI 0)) 61 0 4 (nI 3)) 53 0 (fun q => if q < 718 then nI 0 else gI V.1 53 0 q)) 53 0 8 (-1 : Int32) = U
  have fV : FrI W V := by rw [← hV]; exact ((FrI.s48 (by omega)).tr (FrI.s48 (by omega))).tr (FrI.s48 (by omega))
  have fU : FrI V U := by
    rw [← hU]
    exact (((((((((FrI.s48 (by omega)).tr (FrI.s48 (by omega))).tr (FrI.s48 (by omega))).tr (FrI.sk (by decide))).tr (FrI.sk (by decide))).tr (FrI.sk (by decide))).tr (FrI.sk (by decide))).tr (FrI.sk (by decide))).tr FrI.sf).tr (FrI.sk (by decide))
  have u53 : gI U.1 53 0 = upd (fun q => if q < 718 then nI 0 else gI V.1 53 0 q) 8 (-1 : Int32) := by rw [← hU, gI_sIv, gI_sFs]
  have u61 : ∀ j, j < 5 → gI U.1 61 0 j = nI (stD j) := fun j hj => by
    have hj' : j = 0 ∨ j = 1 ∨ j = 2 ∨ j = 3 ∨ j = 4 := by omega
    rw [← hU, gI_sIk (by omega), gI_sFk (by omega)]
    simp (disch := omega) only [gI_sIv]
    rcases hj' with rfl | rfl | rfl | rfl | rfl <;> rfl
  have uV : ∀ x, ¬ (33 ≤ x ∧ x ≤ 35) → gI U.1 48 0 x = gI V.1 48 0 x := fun x hx => by
    rw [← hU, gI_sIk (by omega), gI_sFk (by omega)]
    simp (disch := omega) only [gI_sIk, gI_sIv, upd_ne]
  have u3 : gI U.1 48 0 33 = nI 0 ∧ gI U.1 48 0 34 = nI 0 ∧ gI U.1 48 0 35 = nI 0 := by
    rw [← hU, gI_sIk (by omega), gI_sFk (by omega)]
    simp (disch := omega) only [gI_sIk, gI_sIv, upd_ne, upd_at]
    exact ⟨trivial, trivial, trivial⟩
  have u23 : gI U.1 48 0 23 = nI L := by
    rw [uV 23 (by omega), ← hV]
    simp (disch := omega) only [gI_sIv, upd_ne]
    exact h23
  have u31 : gI U.1 48 0 31 = nI 0 ∧ gI U.1 48 0 32 = (-1 : Int32) := by
    rw [uV 31 (by omega), uV 32 (by omega), ← hV]
    simp (disch := omega) only [gI_sIv, upd_ne, upd_at]
    exact ⟨trivial, trivial⟩
  have f2 := fV.tr fU
  rw [u23, wr_t, wr_t, wr_t]
  generalize hT : sI (sI (sI U 48 0 24 (nI L)) 48 0 23 (nI 0)) 48 0 25 (nI 0) = T
  have f3 : FrI U T := by rw [← hT]; exact ((FrI.s48 (by omega)).tr (FrI.s48 (by omega))).tr (FrI.s48 (by omega))
  have t48 : ∀ x, 31 ≤ x → gI T.1 48 0 x = gI U.1 48 0 x := fun x hx => by
    rw [← hT]
    simp (disch := omega) only [gI_sIv, upd_ne]
  have t2 : gI T.1 48 0 24 = nI L ∧ gI T.1 48 0 23 = nI 0 ∧ gI T.1 48 0 25 = nI 0 := by
    rw [← hT]
    simp (disch := omega) only [gI_sIv, upd_ne, upd_at]
    exact ⟨trivial, trivial, trivial⟩
  have tT : TxM T L B := ⟨hL, t2.1, fun j hj => by
    rw [((f2.tr f3).2.1 60 0 (by decide)).1]
    exact hB j hj⟩
  obtain ⟨Z, eZ, fZ, z1, z2, z3, z4, z5⟩ := r_274 tT (Nat.zero_le L) t2.2.2
  rw [eZ, bd_t]
  have tk : ∀ k, k ≠ 48 → gI T.1 k = gI U.1 k := fun k hk => by
    rw [← hT, gI_sIk hk, gI_sIk hk, gI_sIk hk]
  refine ⟨Z, rfl, (f2.tr f3).tr fZ.w.i, ⟨fZ.tx tT, rn_le (Nat.zero_le L), z1, z2, z3, z4, z5⟩, ⟨?_, ?_, ?_, ?_, ?_, ?_⟩, fun q hq h8 => ?_, ?_, fun j hj => ?_⟩
  · rw [fZ.2.2 31 (by omega), t48 31 (by omega)]; exact u31.1
  · rw [fZ.2.2 32 (by omega), t48 32 (by omega)]; exact u31.2
  · rw [fZ.2.2 33 (by omega), t48 33 (by omega)]; exact u3.1
  · rw [fZ.2.2 34 (by omega), t48 34 (by omega)]; exact u3.2.1
  · rw [fZ.2.2 35 (by omega), t48 35 (by omega)]; exact u3.2.2
  · rw [fZ.2.2 23 (by omega)]; exact t2.2.1
  · rw [(fZ.2.1 53 0 (by omega)).1, tk 53 (by omega), u53, upd_ne h8, if_pos hq]
  · rw [(fZ.2.1 53 0 (by omega)).1, tk 53 (by omega), u53, upd_at]
  · rw [(fZ.2.1 61 0 (by omega)).1, tk 61 (by omega)]; exact u61 j hj
theorem p_start {Y W : Sm} {L d : Nat} {B : Nat → Nat} (h : Tx Y L B) (h23 : gI W.1 48 0 23 = nI L) (hB : ∀ j, j < L → B j < 256 ∧ gI W.1 60 0 j = sb (B j)) : ∃ X V, fn_59 d Y = (exd (lp (fun s => fn_59_L36 s.1 s.2) FU (nI 0, X)) fun s9 => fn_59_J78 s9) ∧ fn_292 W = (exd (lp (fun s => fn_292_L41 s) FU V) fun s9 => fn_292_J62 s9) ∧ Fr (SD d) (sG Y 2 d) X ∧ FrI W V ∧ gI V.1 48 0 23 = nI 0 ∧ RdR d L B (rn L B isBl 0) 0 0 0 X V := by
  obtain ⟨X, e1, f1, t1, ⟨a1, a2, a3⟩, ⟨b1, b2, b3⟩, ⟨c1, c2⟩, d1⟩ := p_ic (d := d) h
  obtain ⟨V, e2, f2, t2, ⟨g1, g2, g3, g4, g5, g6⟩, z1, z2, z3⟩ := p_im h.1 h23 hB
  have hd : X.2 2 = d := by rw [f1.1, g_sG, ug_at]
  refine ⟨X, V, e1, e2, f1, f2, g6, hd, t1, t2, ⟨a2, a3, g1, g2⟩, ⟨by omega, ⟨b1, b2, g3, g4⟩, fun k hk => absurd hk (Nat.not_lt_zero _), fun a ha => absurd ha (Nat.not_lt_zero _), fun j hj => ?_, ⟨⟨c1, c2, z1 9 (by omega) (by omega), z1 6 (by omega) (by omega)⟩, fun j hj => absurd hj (Nat.not_lt_zero _)⟩, ⟨fun q hq => ?_, z2, fun q h1 h2 => z1 q (by omega) (by omega), fun j hj => z1 _ (by omega) (by omega), fun k _ hk => z1 _ (by omega) (by omega)⟩, ⟨0, by omega, b3, z1 1 (by omega) (by omega)⟩, 0, by omega, a1, g5⟩⟩
  · obtain ⟨s1, s2⟩ := stD_b j hj
    exact ⟨stD j, s1, s2, d1 j hj, z3 j hj⟩
  · simp only [List.mem_cons, List.mem_nil_iff, or_false] at hq
    exact z1 q (by omega) (by omega)
