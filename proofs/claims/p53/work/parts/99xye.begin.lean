/-! the state behind the parse -/
def row0 (f c : Nat → Nat) (tl : Nat) : Nat → Int32 := fun q => if q = 1 then nI tl else if q = 8 then (-1 : Int32) else if 10 ≤ q ∧ q < 15 then nI (q - 10) else if 15 ≤ q ∧ q < 20 then nI (f (q - 15)) else if 20 ≤ q ∧ q < 28 then nI (c (q - 20)) else if 78 ≤ q ∧ q < 118 then nI ((q - 78) % 5) else nI 0
section R0
variable {f c : Nat → Nat} {tl : Nat}
theorem r0_z {q : Nat} (h : q = 0 ∨ (2 ≤ q ∧ q < 8) ∨ q = 9 ∨ (28 ≤ q ∧ q < 78)) : row0 f c tl q = nI 0 := by
  unfold row0
  rw [if_neg (by omega), if_neg (by omega), if_neg (by omega), if_neg (by omega), if_neg (by omega), if_neg (by omega)]
theorem r0_1 : row0 f c tl 1 = nI tl := if_pos rfl
theorem r0_8 : row0 f c tl 8 = (-1 : Int32) := by
  unfold row0
  rw [if_neg (by omega), if_pos rfl]
theorem r0_o {k : Nat} (h : k < 5) : row0 f c tl (10 + k) = nI k := by
  unfold row0
  rw [if_neg (by omega), if_neg (by omega), if_pos (by omega), Nat.add_sub_cancel_left]
theorem r0_m {k : Nat} (h : k < 5) : row0 f c tl (15 + k) = nI (f k) := by
  unfold row0
  rw [if_neg (by omega), if_neg (by omega), if_neg (by omega), if_pos (by omega), Nat.add_sub_cancel_left]
theorem r0_c {k : Nat} (h : k < 8) : row0 f c tl (20 + k) = nI (c k) := by
  unfold row0
  rw [if_neg (by omega), if_neg (by omega), if_neg (by omega), if_neg (by omega), if_pos (by omega), Nat.add_sub_cancel_left]
theorem r0_b {a p : Nat} (ha : a < 8) (hp : p < 5) : bal (row0 f c tl) a p = nI p := by
  unfold bal row0
  rw [if_neg (by omega), if_neg (by omega), if_neg (by omega), if_neg (by omega), if_neg (by omega), if_pos (by omega), show 78 + 5 * a + p - 78 = p + 5 * a by omega, Nat.add_mul_mod_self_left, Nat.mod_eq_of_lt hp]
end R0
theorem p_106 {Y : Sm} {T : List Int32} {C A t a1 a2 a3 a4 a5 d : Nat} {f c v : Nat → Nat} (hT : T = setT (askT (clsT f C) c v A) t a1 a2 a3 a4 a5) (hC : 0 < C ∧ C ≤ 5) (hA : 0 < A ∧ A ≤ 8) (hf : ∀ i, f i ≤ 3) (hc : ∀ i, c i ≤ 30 ∧ v i < 10 ∧ 1 ≤ v i) (hP : PRS t a1 a2 a3 a4 a5) (hx : Tx Y T.length (Bt T)) (hd : Y.2 1 = d ∧ d < 3) (h37 : gI Y.1 37 0 1 = nI 0) : ∃ P tu ro r Z, P.1 = C ∧ P.2.1 = A ∧ fn_106 Y = some (nI C, Z) ∧ S6 Z P tu ro r 0 0 0 0 0 0 := by
  obtain ⟨hd1, hd3⟩ := hd
  obtain ⟨Y1, e59, F1, D1⟩ := p_all (d := d) (Y := Y) hT hC hA hf hc hP hx
  obtain ⟨p0, p1, p2, p3, p4, p5⟩ := hP
  have htl : (if t = 0 then 2 else 1) < 3 := by split <;> omega
  generalize (if t = 0 then 2 else 1) = tl at *
  generalize hst : stF a1 a2 a3 a4 a5 = st at *
  have s0 : st 0 = a1 := by rw [← hst]; rfl
  have s1 : st 1 = a2 := by rw [← hst]; rfl
  let P : Pm := (C, A, fun j => nI (st j), fun a => nI (v a))
  let r := row0 f c tl
  have h3 : 0 < P.1 ∧ P.1 ≤ 5 ∧ 0 < P.2.1 ∧ P.2.1 ≤ 8 := ⟨hC.1, hC.2, hA.1, hA.2⟩
  obtain ⟨d1, ⟨d2, d3⟩, ⟨d4, d5, d6⟩, d7, d8, d9, d10, d11⟩ := D1
  generalize hY6 : sI (sI (sI Y1 1 0 1 (nI 0)) 0 0 4 (gI (sI Y1 1 0 1 (nI 0)).1 3 0 3)) 0 0 5 (gI (sI (sI Y1 1 0 1 (nI 0)) 0 0 4 (gI (sI Y1 1 0 1 (nI 0)).1 3 0 3)).1 3 0 4) = Y6
  have g6 : ∀ k i, k ≠ 0 → k ≠ 1 → gI Y6.1 k i = gI Y1.1 k i := fun k i h0 h1 => by rw [← hY6, gI_sIk h0, gI_sIk h0, gI_sIk h1]
  have e62 : Y6.2 = Y1.2 := by rw [← hY6]; rfl
  have e61 : Y6.2 1 = d := by rw [e62, F1.1, g_sG, ug_ne (by omega)]; exact hd1
  generalize hY8 : sG (sG Y6 0 (Y6.2 1)) 1 (Y6.2 0) = Y8
  have g8 : gI Y8.1 = gI Y6.1 := by rw [← hY8]; rfl
  have e80 : Y8.2 0 = d := by rw [← hY8, g_sG, ug_ne (by omega), g_sG, ug_at]; exact e61
  have G : ∀ k i, k ≠ 0 → k ≠ 1 → gI Y8.1 k i = gI Y1.1 k i := fun k i h0 h1 => by rw [g8, g6 k i h0 h1]
  have hRw : Rw Y8 d P r 0 := by
    refine ⟨⟨⟨⟨?_, ?_⟩, fun j hj => ?_, fun a ha => ?_⟩, r0_z (by omega), ?_, r0_z (by omega), r0_z (by omega), r0_z (by omega), r0_z (by omega), r0_z (by omega), r0_z (by omega), r0_8, r0_z (by omega)⟩, ⟨?_, ?_⟩, fun k hk => ⟨r0_o (Nat.lt_of_lt_of_le hk hC.2), ?_, r0_z (by have : k < 5 := Nat.lt_of_lt_of_le hk hC.2; omega), r0_z (by have : k < 5 := Nat.lt_of_lt_of_le hk hC.2; omega)⟩, fun a ha => ?_, fun a p ha hp => r0_b (Nat.lt_of_lt_of_le ha hA.2) (Nat.lt_of_lt_of_le hp hC.2), fun j hj => absurd hj (Nat.not_lt_zero j)⟩
    · rw [G 5 d (by omega) (by omega)]; exact d4
    · rw [G 5 d (by omega) (by omega)]; exact d5
    · rw [G 11 d (by omega) (by omega)]; exact d9 j hj
    · rw [G 10 d (by omega) (by omega)]; exact (d8 a ha).2.2
    · rw [G 5 d (by omega) (by omega)]; exact d6.trans r0_1.symm
    · rw [G 12 d (by omega) (by omega)]; exact d10
    · rw [G 12 d (by omega) (by omega)]; exact d11
    · rw [G 7 d (by omega) (by omega)]; exact ((d7 k hk).2).trans (r0_m (Nat.lt_of_lt_of_le hk hC.2)).symm
    · have ha8 : a < 8 := Nat.lt_of_lt_of_le ha hA.2
      refine ⟨?_, r0_z (by omega), r0_z (by omega), r0_z (by omega), r0_z (by omega), r0_z (by omega)⟩
      rw [G 9 d (by omega) (by omega)]
      exact ((d8 a ha).2.1).trans (r0_c ha8).symm
  obtain ⟨Y9, e71, F9, hR⟩ := c_71 (X := Y8) h3 hd3 (by omega) hRw
  have n37 : ∀ i, ¬ S2 0 37 i := fun i w => by
    unfold S2 at w
    simp only [List.mem_cons, List.mem_nil_iff, or_false] at w
    omega
  have h37' : gI Y9.1 37 0 1 = nI 0 := by
    rw [F9.gI (n37 0), gI_sG, G 37 0 (by omega) (by omega), F1.gI (fun w => by
      unfold SD at w
      simp only [List.mem_cons, List.mem_nil_iff, or_false] at w
      omega), gI_sG]
    exact h37
  have z90 : Y9.2 0 = d := by rw [F9.1, g_sG, ug_ne (by omega)]; exact e80
  have z93 : Y9.2 3 = d := by rw [F9.1, g_sG, ug_at]
  have e59' : gI Y9.1 5 d 0 = nI C := by
    have := hR.p.1.1
    rw [z93] at this
    exact this
  refine ⟨P, a1, a2, r, sI (sI Y9 37 0 2 (nI 0)) 0 0 11 (nI 0), rfl, rfl, ?_, ⟨h3, fun a ha => ⟨v a, by have := hc a; omega, rfl⟩, ?_⟩, ?_, (hR.s0 hA.2 (Or.inr rfl)).s0 hA.2 (Or.inl rfl), ?_, ?_, by omega, by omega, ?_, ?_⟩
  · unfold fn_106
    rw [hd1, e59, bd_t, wr_t, wr_t, wr_t, hY6, if_neg (by decide), wr_t, wr_t, hY8, e80, e71, bd_t, wr_t, wr_t]
    show some (gI Y9.1 5 (Y9.2 0) 0, _) = _
    rw [z90, e59']
  · refine ⟨congrArg nI s0, congrArg nI s1, by omega, by omega⟩
  · show Y9.2 3 = Y9.2 0
    rw [z90, z93]
  · refine ⟨⟨r0_z (by omega), r0_z (by omega), r0_z (by omega), r0_z (by omega)⟩, by omega, ⟨tl, htl, r0_1⟩, ⟨0, hA.1, r0_z (by omega)⟩, Or.inl (r0_z (by omega)), ⟨fun k hk => ⟨k, hk, r0_o (Nat.lt_of_lt_of_le hk hC.2)⟩, fun k hk => ⟨k, hk, r0_o (Nat.lt_of_lt_of_le hk hC.2)⟩⟩, fun a ha => ⟨fun k hk => ⟨k, hk, r0_b (Nat.lt_of_lt_of_le ha hA.2) (Nat.lt_of_lt_of_le hk hC.2)⟩, fun k hk => ⟨k, hk, r0_b (Nat.lt_of_lt_of_le ha hA.2) (Nat.lt_of_lt_of_le hk hC.2)⟩⟩, fun j hj => absurd hj (Nat.not_lt_zero j), Or.inl r0_8, fun a ha => ?_, fun k hk => ⟨0, by omega, r0_z (by have : k < 5 := Nat.lt_of_lt_of_le hk hC.2; omega)⟩⟩
    have ha8 : a < 8 := Nat.lt_of_lt_of_le ha hA.2
    exact ⟨⟨c a, by have := hc a; omega, r0_c ha8⟩, ⟨0, by omega, r0_z (by omega)⟩, ⟨0, by omega, r0_z (by omega)⟩⟩
  · refine ⟨⟨fun _ => 0, fun k hk => r0_z (by have : k < 5 := Nat.lt_of_lt_of_le hk hC.2; omega), sumQ_0 _⟩, ⟨fun _ => 0, fun a ha => r0_z (by have : a < 8 := Nat.lt_of_lt_of_le ha hA.2; omega), sumQ_0 _⟩, fun k hk => ⟨f k, hf k, r0_m (Nat.lt_of_lt_of_le hk hC.2)⟩⟩
  · rw [gI_sIk (by omega), gI_sIv, upd_ne (by omega)]; exact h37'
  · rw [gI_sIk (by omega), gI_sIv, upd_at]
