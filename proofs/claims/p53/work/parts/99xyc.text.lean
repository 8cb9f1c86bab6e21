/-! the built text is read whole -/
def cpc (f : Nat → Nat) (k : Nat) : List Int32 := txb 22 ++ [nI (97 + k)] ++ txb (mtx (f k)) ++ [nI 59]
def apc (c v : Nat → Nat) (k : Nat) : List Int32 := txb 35 ++ [nI (109 + k)] ++ txb 36 ++ digs (c k) ++ txb 37 ++ digs (v k) ++ [nI 59]
def tpc (t : Nat) : List Int32 := txb 7 ++ [nI 32] ++ txb (if t = 0 then 10 else 9) ++ [nI 59]
def spc (j a : Nat) : List Int32 := txb j ++ [nI 32] ++ digs a ++ [nI 59]
theorem tx_e : (txb 22 = txb 0 ++ [nI 32] ∧ txb 35 = txb 4 ++ [nI 32] ∧ txb 36 = [nI 32] ++ txb 5 ++ [nI 32] ∧ txb 37 = [nI 32] ++ txb 6 ++ [nI 32]) ∧ (txb 38 = txb 7 ++ [nI 32] ∧ txb 39 = [nI 59] ++ txb 11 ++ [nI 32] ∧ txb 40 = [nI 59] ++ txb 12 ++ [nI 32]) ∧ txb 41 = [nI 59] ++ txb 13 ++ [nI 32] ∧ txb 42 = [nI 59] ++ txb 14 ++ [nI 32] ∧ txb 43 = [nI 59] ++ txb 15 ++ [nI 32] := by decide +kernel
theorem mt_e : txb (mtx 0) = [] ∧ txb (mtx 1) = [nI 32] ++ txb 1 ∧ txb (mtx 2) = [nI 32] ++ txb 2 ∧ txb (mtx 3) = [nI 32] ++ txb 3 := by decide +kernel
theorem setT_e (l : List Int32) (t a1 a2 a3 a4 a5 : Nat) : setT l t a1 a2 a3 a4 a5 = l ++ tpc t ++ spc 11 a1 ++ spc 12 a2 ++ spc 13 a3 ++ spc 14 a4 ++ spc 15 a5 := by
  obtain ⟨_, ⟨e1, e2, e3⟩, e4, e5, e6⟩ := tx_e
  unfold setT tpc spc
  rw [e1, e2, e3, e4, e5, e6]
  simp only [List.append_assoc]
theorem nbk_c {l : List Int32} {s x : Nat} (h : At l s [nI x]) (hx : 40 ≤ x ∧ x ≤ 200) : nbk l s := fun _ => by
  rw [(h.c (by omega)).2]
  unfold isBl
  rw [beq_ne (by omega), beq_ne (by omega)]
  rfl
section TX
variable {T : List Int32} {X : Sm} {s d C A tl mk i : Nat} {f c v st : Nat → Nat}
abbrev TK9 (T : List Int32) (X : Sm) (s : Nat) : Prop := TkC X T.length (Bt T) s
/-- the class k -/
theorem s_cls {k : Nat} (hA : At T s (cpc f k)) (hnb : nbk T (s + (cpc f k).length)) (h : TK9 T X s) (hD : DI X d k A f c v tl st mk) (hk : k < 5) (hf : f k ≤ 3) (hi : i < 500) : ∃ Z, fn_59_L36 (nI i) X = some (.inl (nI (i + 1), Z)) ∧ Fr (SD d) X Z ∧ TK9 T Z (s + (cpc f k).length) ∧ DI Z d (k + 1) A f c v tl st mk := by
  obtain ⟨⟨e22, -⟩, -⟩ := tx_e
  have hlen : (cpc f k).length = 8 + (txb (mtx (f k))).length := by
    unfold cpc
    simp only [List.length_append, List.length_cons, List.length_nil, tlen.1.1]
    omega
  rw [hlen] at hnb ⊢
  have hbound := hA.1
  rw [hlen] at hbound
  unfold cpc at hA
  have a59 := hA.r
  have am := hA.l.r
  have an := hA.l.l.r
  have aw := hA.l.l.l
  rw [show s + (txb 22 ++ [nI (97 + k)] ++ txb (mtx (f k))).length = s + 7 + (txb (mtx (f k))).length by simp only [List.length_append, List.length_cons, List.length_nil, tlen.1.1]; omega] at a59
  rw [show s + (txb 22 ++ [nI (97 + k)]).length = s + 7 by simp only [List.length_append, List.length_cons, List.length_nil, tlen.1.1]] at am
  rw [tlen.1.1] at an
  rw [e22] at aw
  have asp : At T (s + 5) [nI 32] := aw.r
  obtain ⟨t1, t2, t3⟩ := tw aw.l (by omega) asp (Or.inl rfl)
  have t2 : edS T.length (Bt T) s = s + 5 := t2
  have hnx1 : nxt T.length (Bt T) s = s + 6 := nx_1 t2 asp (nbk_c an (by omega))
  obtain ⟨m0, m1, m2, m3⟩ := mt_e
  have fin : ∀ s2 e2, nmb T.length (Bt T) (s + 6) = true ∧ nmC T.length (Bt T) (s + 6) = nL (97 + k) → nxt T.length (Bt T) (s + 6) = s2 → st3 T.length (Bt T) s2 = f k → (if f k = 0 then s2 else nxt T.length (Bt T) s2) = e2 → e2 = s + 7 + (txb (mtx (f k))).length → ∃ Z, fn_59_L36 (nI i) X = some (.inl (nI (i + 1), Z)) ∧ Fr (SD d) X Z ∧ TK9 T Z (s + (8 + (txb (mtx (f k))).length)) ∧ DI Z d (k + 1) A f c v tl st mk := fun s2 e2 hn hx hst he2 he3 => by
    obtain ⟨Z, eZ, fZ, tZ, dZ⟩ := r_cls h hD hk t1 hnx1 hn hx
    rw [hst, he2, he3] at tZ
    obtain ⟨k1, k2, _⟩ := ts a59
    obtain ⟨Z2, e61, f61, t61⟩ := c_61s tZ k1
    have hl : s + 7 + (txb (mtx (f k))).length + 1 = s + (8 + (txb (mtx (f k))).length) := by omega
    rw [nx_0 (e := s + (8 + (txb (mtx (f k))).length)) (by rw [k2, hl]) (by omega) hnb] at t61
    refine ⟨Z2, L36_s hi h t1 hD.2.1.1 eZ e61, fZ.tr f61.d4, t61, DI.k4 ?_ f61⟩
    have hup : upn f k (st3 T.length (Bt T) s2) = f := by
      funext q
      unfold upn
      by_cases cq : q = k
      · rw [if_pos cq, hst, cq]
      · rw [if_neg cq]
    rw [hup] at dZ
    exact dZ
  have hf4 : f k = 0 ∨ f k = 1 ∨ f k = 2 ∨ f k = 3 := by omega
  by_cases hz : f k = 0
  · have hm0 : (txb (mtx (f k))).length = 0 := by rw [hz, m0]; rfl
    rw [hm0] at a59
    obtain ⟨n1, n2, n3⟩ := tn an (by omega) (show At T (s + 6 + 1) [nI 59] from a59) (Or.inr rfl)
    obtain ⟨k1, k2, k3⟩ := ts a59
    refine fin (s + 7) (s + 7) n1 (nx_0 n2 (by omega) k3) ?_ (by rw [if_pos hz]) (by rw [hm0])
    rw [hz]
    unfold st3
    rw [wb_k (by rw [show s + 7 = s + 7 + 0 from rfl, k1]; decide), wb_k (by rw [show s + 7 = s + 7 + 0 from rfl, k1]; decide), wb_k (by rw [show s + 7 = s + 7 + 0 from rfl, k1]; decide), if_neg (by decide), if_neg (by decide), if_neg (by decide)]
  · have hj : ∃ j, (1 ≤ j ∧ j ≤ 3) ∧ f k = j ∧ txb (mtx (f k)) = [nI 32] ++ txb j := by
      rcases hf4 with e | e | e | e
      · exact absurd e hz
      · exact ⟨1, by omega, e, by rw [e]; exact m1⟩
      · exact ⟨2, by omega, e, by rw [e]; exact m2⟩
      · exact ⟨3, by omega, e, by rw [e]; exact m3⟩
    obtain ⟨j, hj13, hfj, hmj⟩ := hj
    have hml : (txb (mtx (f k))).length = 1 + slen j := by
      rw [hmj]
      simp only [List.length_append, List.length_cons, List.length_nil]
      rfl
    rw [hmj] at am
    rw [hml] at a59
    have aj : At T (s + 8) (txb j) := am.r
    have a59' : At T (s + 8 + slen j) [nI 59] := by rw [show s + 8 + slen j = s + 7 + (1 + slen j) by omega]; exact a59
    obtain ⟨n1, n2, n3⟩ := tn an (by omega) (show At T (s + 6 + 1) [nI 32] from am.l) (Or.inl rfl)
    obtain ⟨w1, w2, w3⟩ := tw aj (by omega) a59' (Or.inr rfl)
    obtain ⟨k1, k2, k3⟩ := ts a59'
    refine fin (s + 8) (s + 8 + slen j) n1 (nx_1 (e := s + 7) n2 am.l w3) ?_ ?_ (by rw [hml]; omega)
    · rw [st3_j (by omega) w1, if_pos hj13, hfj]
    · rw [if_neg hz]
      exact nx_0 w2 (by rw [hml] at hbound; omega) k3
/-- the asker k -/
theorem s_ask {k : Nat} (hA : At T s (apc c v k)) (hnb : nbk T (s + (apc c v k).length)) (h : TK9 T X s) (hD : DI X d C k f c v tl st mk) (hk : k < 8) (hc : c k ≤ 30 ∧ v k < 10 ∧ 1 ≤ v k) (hi : i < 500) : ∃ Z, fn_59_L36 (nI i) X = some (.inl (nI (i + 1), Z)) ∧ Fr (SD d) X Z ∧ TK9 T Z (s + (apc c v k).length) ∧ DI Z d C (k + 1) f c v tl st mk := by
  obtain ⟨⟨-, e35, e36, e37⟩, -⟩ := tx_e
  obtain ⟨⟨-, l35, l36, l37⟩, -⟩ := tlen
  have hv1 : dgn (v k) = 1 := if_pos hc.2.1
  have hlen : (apc c v k).length = 26 + dgn (c k) := by
    unfold apc
    simp only [List.length_append, List.length_cons, List.length_nil, digs_len, l35, l36, l37, hv1]
    omega
  rw [hlen] at hnb ⊢
  have hbound := hA.1
  rw [hlen] at hbound
  unfold apc at hA
  have a59 := hA.r
  have av := hA.l.r
  have a37 := hA.l.l.r
  have ac := hA.l.l.l.r
  have a36 := hA.l.l.l.l.r
  have an := hA.l.l.l.l.l.r
  have aw := hA.l.l.l.l.l.l
  rw [show s + (txb 35 ++ [nI (109 + k)] ++ txb 36 ++ digs (c k) ++ txb 37 ++ digs (v k)).length = s + 16 + dgn (c k) + 8 + 1 by simp only [List.length_append, List.length_cons, List.length_nil, digs_len, l35, l36, l37, hv1]; omega] at a59
  rw [show s + (txb 35 ++ [nI (109 + k)] ++ txb 36 ++ digs (c k) ++ txb 37).length = s + 16 + dgn (c k) + 8 by simp only [List.length_append, List.length_cons, List.length_nil, digs_len, l35, l36, l37]; omega] at av
  rw [show s + (txb 35 ++ [nI (109 + k)] ++ txb 36 ++ digs (c k)).length = s + 16 + dgn (c k) by simp only [List.length_append, List.length_cons, List.length_nil, digs_len, l35, l36, l37]; omega] at a37
  rw [show s + (txb 35 ++ [nI (109 + k)] ++ txb 36).length = s + 16 by simp only [List.length_append, List.length_cons, List.length_nil, l35, l36]] at ac
  rw [show s + (txb 35 ++ [nI (109 + k)]).length = s + 7 by simp only [List.length_append, List.length_cons, List.length_nil, l35]] at a36
  rw [l35] at an
  rw [e35] at aw
  rw [e36] at a36
  rw [e37] at a37
  have asp : At T (s + 5) [nI 32] := aw.r
  obtain ⟨w1, w2, w3⟩ := tw aw.l (by omega) asp (Or.inl rfl)
  have hx1 : nxt T.length (Bt T) s = s + 6 := nx_1 (e := s + 5) w2 asp (nbk_c an (by omega))
  obtain ⟨n1, n2, n3⟩ := tn an (by omega) (show At T (s + 6 + 1) [nI 32] from a36.l.l) (Or.inl rfl)
  have a5 : At T (s + 8) (txb 5) := a36.l.r
  have a5s : At T (s + 8 + slen 5) [nI 32] := a36.r
  obtain ⟨p1, p2, p3⟩ := tw a5 (by omega) a5s (Or.inl rfl)
  have hx2 : nxt T.length (Bt T) (s + 6) = s + 8 := nx_1 (e := s + 7) n2 a36.l.l p3
  have a6s : At T (s + 16 + dgn (c k)) [nI 32] := a37.l.l
  obtain ⟨q1, q2, q3⟩ := td ac (by omega) a6s (Or.inl rfl)
  have hx3 : nxt T.length (Bt T) (s + 8) = s + 16 := nx_1 (e := s + 15) p2 a5s q3
  have a6 : At T (s + 16 + dgn (c k) + 1) (txb 6) := a37.l.r
  have a6e : At T (s + 16 + dgn (c k) + 1 + slen 6) [nI 32] := a37.r
  obtain ⟨r1, r2, r3⟩ := tw a6 (by omega) a6e (Or.inl rfl)
  have hx4 : nxt T.length (Bt T) (s + 16) = s + 16 + dgn (c k) + 1 := nx_1 q2 a6s r3
  have a59v : At T (s + 16 + dgn (c k) + 8 + dgn (v k)) [nI 59] := by rw [hv1]; exact a59
  obtain ⟨y1, y2, y3⟩ := td av (by omega) a59v (Or.inr rfl)
  have hx5 : nxt T.length (Bt T) (s + 16 + dgn (c k) + 1) = s + 16 + dgn (c k) + 8 := nx_1 (e := s + 16 + dgn (c k) + 7) r2 a6e y3
  obtain ⟨z1, z2, z3⟩ := ts a59
  have hx6 : nxt T.length (Bt T) (s + 16 + dgn (c k) + 8) = s + 16 + dgn (c k) + 8 + 1 := nx_0 (by rw [y2, hv1]) (by omega) z3
  obtain ⟨Z, eZ, fZ, tZ, dZ⟩ := r_ask h hD hk w1 hx1 n1 hx2 p1 hx3 q1.1 hx4 r1 hx5 y1.1 (by rw [y1.2]; omega)
  rw [hx6] at tZ
  obtain ⟨Z2, e61, f61, t61⟩ := c_61s tZ z1
  have hl : s + 16 + dgn (c k) + 8 + 1 + 1 = s + (26 + dgn (c k)) := by omega
  rw [nx_0 (e := s + (26 + dgn (c k))) (by rw [z2, hl]) (by omega) hnb] at t61
  refine ⟨Z2, L36_s hi h w1 hD.2.1.1 eZ e61, fZ.tr f61.d4, t61, DI.k4 ?_ f61⟩
  rw [q1.2, y1.2] at dZ
  have hup : ∀ g : Nat → Nat, upn g k (g k) = g := fun g => by
    funext q
    unfold upn
    by_cases cq : q = k
    · rw [if_pos cq, cq]
    · rw [if_neg cq]
  rw [hup c, hup v] at dZ
  exact dZ
/-- the tally -/
theorem s_tly {t : Nat} (hA : At T s (tpc t)) (hnb : nbk T (s + (tpc t).length)) (h : TK9 T X s) (hD : DI X d C A f c v tl st 0) (hi : i < 500) : ∃ Z, fn_59_L36 (nI i) X = some (.inl (nI (i + 1), Z)) ∧ Fr (SD d) X Z ∧ TK9 T Z (s + (tpc t).length) ∧ DI Z d C A f c v (if t = 0 then 2 else 1) st 32 := by
  have hj : ∃ j, (j = 9 ∨ j = 10) ∧ (if t = 0 then 10 else 9) = j ∧ (if t = 0 then 2 else 1) = j - 8 := by
    by_cases ht : t = 0
    · exact ⟨10, Or.inr rfl, if_pos ht, if_pos ht⟩
    · exact ⟨9, Or.inl rfl, if_neg ht, if_neg ht⟩
  obtain ⟨j, hj9, ej, ej2⟩ := hj
  have hlen : (tpc t).length = 7 + slen j := by
    unfold tpc
    rw [ej]
    simp only [List.length_append, List.length_cons, List.length_nil]
    show slen 7 + 1 + slen j + 1 = _
    rw [show slen 7 = 5 by decide]
    omega
  rw [hlen] at hnb ⊢
  rw [ej2]
  have hbound := hA.1
  rw [hlen] at hbound
  unfold tpc at hA
  rw [ej] at hA
  have a59 : At T (s + 6 + slen j) [nI 59] := by
    have := hA.r
    rw [show s + (txb 7 ++ [nI 32] ++ txb j).length = s + 6 + slen j by
      simp only [List.length_append, List.length_cons, List.length_nil]
      show s + (slen 7 + 1 + slen j) = _
      rw [show slen 7 = 5 by decide]
      omega] at this
    exact this
  have aj : At T (s + 6) (txb j) := hA.l.r
  have asp : At T (s + 5) [nI 32] := hA.l.l.r
  obtain ⟨w1, w2, w3⟩ := tw hA.l.l.l (by omega) asp (Or.inl rfl)
  obtain ⟨p1, p2, p3⟩ := tw aj (by omega) a59 (Or.inr rfl)
  have hx1 : nxt T.length (Bt T) s = s + 6 := nx_1 (e := s + 5) w2 asp p3
  obtain ⟨z1, z2, z3⟩ := ts a59
  have hx2 : nxt T.length (Bt T) (s + 6) = s + 6 + slen j := nx_0 p2 (by omega) z3
  obtain ⟨Z, eZ, fZ, tZ, dZ⟩ := r_tly h hD w1 hx1 hj9 p1
  rw [hx2] at tZ
  obtain ⟨Z2, e61, f61, t61⟩ := c_61s tZ z1
  have hl : s + 6 + slen j + 1 = s + (7 + slen j) := by omega
  rw [nx_0 (e := s + (7 + slen j)) (by rw [z2, hl]) (by omega) hnb] at t61
  exact ⟨Z2, L36_s hi h w1 hD.2.1.1 eZ e61, fZ.tr f61.d4, t61, DI.k4 dZ f61⟩
/-- a setting -/
theorem s_set {j a x lo hi9 mk' : Nat} (hA : At T s (spc j x)) (hnb : nbk T (s + (spc j x).length)) (h : TK9 T X s) (hD : DI X d C A f c v tl st mk) (hj : j < 17) (ha : a < 5) (hx : lo ≤ x ∧ x ≤ hi9 ∧ hi9 ≤ 99) (hx9 : x < 100) (hm : (nI mk &&& (nI 1 <<< (nI a &&& 31))) = nI 0 ∧ (nI mk ||| (nI 1 <<< (nI a &&& 31))) = nI mk') (hi : i < 500) (h62 : ∀ Z, wb T.length (Bt T) s j = true → fn_68 (nI a) (nI lo) (nI hi9) X = some (nI 1, Z) → fn_62 X = some (nI 1, Z)) : ∃ Z, fn_59_L36 (nI i) X = some (.inl (nI (i + 1), Z)) ∧ Fr (SD d) X Z ∧ TK9 T Z (s + (spc j x).length) ∧ DI Z d C A f c v tl (upn st a x) mk' := by
  have hlen : (spc j x).length = slen j + 1 + dgn x + 1 := by
    unfold spc
    simp only [List.length_append, List.length_cons, List.length_nil, digs_len]
    rfl
  rw [hlen] at hnb ⊢
  have hbound := hA.1
  rw [hlen] at hbound
  unfold spc at hA
  have a59 : At T (s + slen j + 1 + dgn x) [nI 59] := by
    have := hA.r
    rw [show s + (txb j ++ [nI 32] ++ digs x).length = s + slen j + 1 + dgn x by
      simp only [List.length_append, List.length_cons, List.length_nil, digs_len]
      show s + (slen j + 1 + dgn x) = _
      omega] at this
    exact this
  have ax : At T (s + slen j + 1) (digs x) := by
    have := hA.l.r
    rw [show s + (txb j ++ [nI 32]).length = s + slen j + 1 by
      simp only [List.length_append, List.length_cons, List.length_nil]
      show s + (slen j + 1) = _
      omega] at this
    exact this
  have asp : At T (s + slen j) [nI 32] := hA.l.l.r
  obtain ⟨w1, w2, w3⟩ := tw hA.l.l.l hj asp (Or.inl rfl)
  obtain ⟨p1, p2, p3⟩ := td ax hx9 a59 (Or.inr rfl)
  have hx1 : nxt T.length (Bt T) s = s + slen j + 1 := nx_1 w2 asp p3
  obtain ⟨z1, z2, z3⟩ := ts a59
  have hx2 : nxt T.length (Bt T) (s + slen j + 1) = s + slen j + 1 + dgn x := nx_0 p2 (by omega) z3
  obtain ⟨Z, eZ, fZ, tZ, dZ⟩ := r_set (lo := lo) (hi := hi9) h hD ha (by rw [p1.2]; omega) hm hx1 p1.1
  rw [hx2] at tZ
  rw [p1.2] at dZ
  obtain ⟨Z2, e61, f61, t61⟩ := c_61s tZ z1
  have hl : s + slen j + 1 + dgn x + 1 = s + (slen j + 1 + dgn x + 1) := by omega
  rw [nx_0 (e := s + (slen j + 1 + dgn x + 1)) (by rw [z2, hl]) (by omega) hnb] at t61
  exact ⟨Z2, L36_s hi h w1 hD.2.1.1 (h62 Z w1 eZ) e61, fZ.tr f61.d4, t61, DI.k4 dZ f61⟩
end TX
