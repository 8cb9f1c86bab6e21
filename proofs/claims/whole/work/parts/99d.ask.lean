/-! the statement of a request -/
def rqU (f : Nat → Int32) (n a k l : Nat) : Nat → Int32 := upd (upd (upd (upd (upd (upd (upd f (118 + 6 * n) (nI n)) (118 + 6 * n + 1) (nI a)) (118 + 6 * n + 2) (nI k)) (118 + 6 * n + 3) (nI l)) (118 + 6 * n + 4) (nI l)) 9 (nI (n + 1))) 6 (nI (n + 1))
theorem rqU_o {f : Nat → Int32} {n a k l q : Nat} (h9 : q ≠ 9) (h6 : q ≠ 6) (h : ¬ (118 + 6 * n ≤ q ∧ q < 118 + 6 * n + 5)) : rqU f n a k l q = f q := by
  unfold rqU
  rw [upd_ne h6, upd_ne h9, upd_ne (by omega), upd_ne (by omega), upd_ne (by omega), upd_ne (by omega), upd_ne (by omega)]
def rqX (X : Sm) (d n a k : Nat) (l : Int32) : Sm := sI (sI (sI (sI (sI (sI (sI X 14 d n (nI a)) 15 d n (nI k)) 16 d n l) 17 d n l) 18 d n (nI 0)) 19 d n (nI n)) 12 d 1 (nI (n + 1))
theorem c_36s {X : Sm} {d n a k : Nat} {l : Int32} (h : gI X.1 12 d 1 = nI n) (hn : n < 40) : fn_36 d (nI n) (nI a) (nI k) l (nI 0) X = some ((), rqX X d n a k l) := by
  unfold fn_36
  rw [h, iteI_le_f hn (by omega), ck_in hn (by omega), ix_nI (by omega), wr_t, gI_sIk (by omega), h, ck_in hn (by omega), ix_nI (by omega), wr_t, gI_sIk (by omega), gI_sIk (by omega), h, ck_in hn (by omega), ix_nI (by omega), wr_t, gI_sIk (by omega), gI_sIk (by omega), gI_sIk (by omega), h, ck_in hn (by omega), ix_nI (by omega), wr_t, gI_sIk (by omega), gI_sIk (by omega), gI_sIk (by omega), gI_sIk (by omega), h, ck_in hn (by omega), ix_nI (by omega), wr_t, gI_sIk (by omega), gI_sIk (by omega), gI_sIk (by omega), gI_sIk (by omega), gI_sIk (by omega), h, ck_in hn (by omega), ix_nI (by omega), wr_t, gI_sIk (by omega), gI_sIk (by omega), gI_sIk (by omega), gI_sIk (by omega), gI_sIk (by omega), gI_sIk (by omega), h, wr_t, nI_add]
  rfl
theorem rqX_f {X : Sm} {d n a k : Nat} {l : Int32} : Fr (SD d) X (rqX X d n a k l) := by
  have m : ∀ k, k ∈ [5, 6, 7, 8, 9, 10, 11, 12, 14, 15, 16, 17, 18, 19] → SD d k d := fun k hk => SDm hk
  exact ((((((Fr.sI (m 14 (by decide))).tr (Fr.sI (m 15 (by decide)))).tr (Fr.sI (m 16 (by decide)))).tr (Fr.sI (m 17 (by decide)))).tr (Fr.sI (m 18 (by decide)))).tr (Fr.sI (m 19 (by decide)))).tr (Fr.sI (m 12 (by decide)))
theorem rqX_o {X : Sm} {d n a k : Nat} {l : Int32} {q : Nat} (h : ¬ q ∈ [12, 14, 15, 16, 17, 18, 19]) : gI (rqX X d n a k l).1 q = gI X.1 q := by
  simp only [List.mem_cons, List.mem_nil_iff, or_false, not_or] at h
  unfold rqX
  rw [gI_sIk (by omega), gI_sIk (by omega), gI_sIk (by omega), gI_sIk (by omega), gI_sIk (by omega), gI_sIk (by omega), gI_sIk (by omega)]
theorem Dr.addQ {X W W' : Sm} {d C A n a k l : Nat} (h : Dr X W d C A n) (hn : n < 40) (ha : a < A) (hk : k < C) (hl : 1 ≤ l ∧ l ≤ 20) (w53 : gI W'.1 53 0 = rqU (gI W.1 53 0) n a k l) (wo : ∀ q, q ∈ [61, 62, 63, 64] → gI W'.1 q 0 = gI W.1 q 0 ∧ gJ W'.1 q 0 = gJ W.1 q 0) (w48 : ∀ x, x ∈ [33, 34, 35] → gI W'.1 48 0 x = gI W.1 48 0 x) : Dr (rqX X d n a k (nI l)) W' d C A (n + 1) := by
  obtain ⟨h0, ⟨a1, a2, a3, a4⟩, hK, hA, hS, hQ, hZ, hT, hM⟩ := h
  generalize hX' : rqX X d n a k (nI l) = X'
  have xo : ∀ q, ¬ q ∈ [12, 14, 15, 16, 17, 18, 19] → gI X'.1 q = gI X.1 q := fun q hq => by rw [← hX']; exact rqX_o hq
  have jo : gJ X'.1 = gJ X.1 := by rw [← hX']; rfl
  have x12 : gI X'.1 12 d = upd (gI X.1 12 d) 1 (nI (n + 1)) := by
    rw [← hX']; unfold rqX
    rw [gI_sIv, gI_sIk (by omega), gI_sIk (by omega), gI_sIk (by omega), gI_sIk (by omega), gI_sIk (by omega), gI_sIk (by omega)]
  have x19 : gI X'.1 19 d = upd (gI X.1 19 d) n (nI n) := by
    rw [← hX']; unfold rqX
    rw [gI_sIk (by omega), gI_sIv, gI_sIk (by omega), gI_sIk (by omega), gI_sIk (by omega), gI_sIk (by omega), gI_sIk (by omega)]
  have x18 : gI X'.1 18 d = upd (gI X.1 18 d) n (nI 0) := by
    rw [← hX']; unfold rqX
    rw [gI_sIk (by omega), gI_sIk (by omega), gI_sIv, gI_sIk (by omega), gI_sIk (by omega), gI_sIk (by omega), gI_sIk (by omega)]
  have x17 : gI X'.1 17 d = upd (gI X.1 17 d) n (nI l) := by
    rw [← hX']; unfold rqX
    rw [gI_sIk (by omega), gI_sIk (by omega), gI_sIk (by omega), gI_sIv, gI_sIk (by omega), gI_sIk (by omega), gI_sIk (by omega)]
  have x16 : gI X'.1 16 d = upd (gI X.1 16 d) n (nI l) := by
    rw [← hX']; unfold rqX
    rw [gI_sIk (by omega), gI_sIk (by omega), gI_sIk (by omega), gI_sIk (by omega), gI_sIv, gI_sIk (by omega), gI_sIk (by omega)]
  have x15 : gI X'.1 15 d = upd (gI X.1 15 d) n (nI k) := by
    rw [← hX']; unfold rqX
    rw [gI_sIk (by omega), gI_sIk (by omega), gI_sIk (by omega), gI_sIk (by omega), gI_sIk (by omega), gI_sIv, gI_sIk (by omega)]
  have x14 : gI X'.1 14 d = upd (gI X.1 14 d) n (nI a) := by
    rw [← hX']; unfold rqX
    rw [gI_sIk (by omega), gI_sIk (by omega), gI_sIk (by omega), gI_sIk (by omega), gI_sIk (by omega), gI_sIk (by omega), gI_sIv]
  refine ⟨by omega, ⟨by rw [xo 5 (by decide)]; exact a1, by rw [xo 5 (by decide)]; exact a2, (w48 33 (by decide)).trans a3, (w48 34 (by decide)).trans a4⟩, fun k hk => ?_, fun a ha => ?_, fun j hj => ?_, ?_, ?_, ?_, ?_⟩
  · rw [jo, xo 7 (by decide), (wo 63 (by decide)).2, w53, rqU_o (by omega) (by omega) (by omega)]
    exact hK k hk
  · rw [jo, xo 9 (by decide), xo 10 (by decide), (wo 64 (by decide)).2, (wo 62 (by decide)).1, w53, rqU_o (by omega) (by omega) (by omega)]
    exact hA a ha
  · rw [xo 11 (by decide), (wo 61 (by decide)).1]
    exact hS j hj
  · obtain ⟨q1, q2⟩ := hQ
    refine ⟨⟨by rw [x12, upd_at], by rw [x12, upd_ne (by omega)]; exact q1.2.1, ?_, ?_⟩, fun j hj => ?_⟩
    · rw [w53]; unfold rqU
      rw [upd_ne (by omega), upd_at]
    · rw [w53]; unfold rqU
      rw [upd_at]
    · rw [x19, x18, x17, x16, x15, x14, w53]
      by_cases c : j = n
      · rw [c, upd_at, upd_at, upd_at, upd_at, upd_at, upd_at]
        refine ⟨a, k, l, ha, hk, hl.1, hl.2, ⟨rfl, rfl, rfl, rfl, rfl, rfl⟩, ?_, ?_, ?_, ?_, ?_⟩
        · unfold rqU
          rw [upd_ne (by omega), upd_ne (by omega), upd_ne (by omega), upd_ne (by omega), upd_ne (by omega), upd_ne (by omega), upd_at]
        · unfold rqU
          rw [upd_ne (by omega), upd_ne (by omega), upd_ne (by omega), upd_ne (by omega), upd_ne (by omega), upd_at]
        · unfold rqU
          rw [upd_ne (by omega), upd_ne (by omega), upd_ne (by omega), upd_ne (by omega), upd_at]
        · unfold rqU
          rw [upd_ne (by omega), upd_ne (by omega), upd_ne (by omega), upd_at]
        · unfold rqU
          rw [upd_ne (by omega), upd_ne (by omega), upd_at]
      · rw [upd_ne c, upd_ne c, upd_ne c, upd_ne c, upd_ne c, upd_ne c, rqU_o (by omega) (by omega) (by omega), rqU_o (by omega) (by omega) (by omega), rqU_o (by omega) (by omega) (by omega), rqU_o (by omega) (by omega) (by omega), rqU_o (by omega) (by omega) (by omega)]
        exact q2 j (by omega)
  · obtain ⟨z1, z2, z3, z4, z5⟩ := hZ
    unfold DrZ
    rw [w53]
    refine ⟨fun q hq => ?_, by rw [rqU_o (by omega) (by omega) (by omega)]; exact z2, fun q h1 h2 => by rw [rqU_o (by omega) (by omega) (by omega)]; exact z3 q h1 h2, fun j hj => by rw [rqU_o (by omega) (by omega) (by omega)]; exact z4 j hj, fun k h1 h2 => by rw [rqU_o (by omega) (by omega) (by omega)]; exact z5 k h1 h2⟩
    have : q < 9 ∧ q ≠ 6 := by
      simp only [List.mem_cons, List.mem_nil_iff, or_false] at hq
      omega
    rw [rqU_o (by omega) (by omega) (by omega)]
    exact z1 q hq
  · obtain ⟨t, t1, t2, t3⟩ := hT
    exact ⟨t, t1, by rw [xo 5 (by decide)]; exact t2, by rw [w53, rqU_o (by omega) (by omega) (by omega)]; exact t3⟩
  · unfold Mk
    rw [xo 3 (by decide), w48 35 (by decide)]
    exact hM
theorem s_ask {d L s C A n : Nat} {B : Nat → Nat} {X W : Sm} (h : RdR d L B s C A n X W) (hs : s < L) : ∃ v Z Z2, fn_66 X = some (v, Z) ∧ fn_290 W = some ((), Z2) ∧ Ou d L B s X W v Z Z2 := by
  have hD := h.2.2.2.2
  have hd : X.2 2 = d := h.1
  obtain ⟨⟨hC, hA, hn⟩, ⟨d1, d2, d3, d4⟩, _, _, _, ⟨⟨q1, q2, q3, q4⟩, _⟩, _⟩ := hD
  have h0 := h.2.2.2.1.2.2.1
  by_cases c : n < 40
  · obtain ⟨X1, W1, eX1, eW1, n1⟩ := h.step
    have r1 := h.nx n1
    have hd1 : X1.2 2 = d := r1.1
    obtain ⟨_, ⟨g1, g2, g3, g4⟩, _⟩ := r1.2.2.2.2
    have h01 := r1.2.2.2.1.2.2.1
    have rl : fn_290 W = (bd (fn_284_48_64 (nI A) W1) fun v7 Y5 => bd (fn_284_48_63 (gI Y5.1 48 0 33) Y5) fun v10 Y8 => bd (fn_281 (nI 1) (nI 20) Y8) fun v13 Y11 => bd (fn_276 Y11) fun v16 Y14 => (if v16 = (nI 0) then some ((), Y14) else ck (inb (((nI 118) + ((nI 6) * (gI Y14.1 53 0 9))) + (nI 0)) 718) <| wr (sI Y14 53 0 (ix (((nI 118) + ((nI 6) * (gI Y14.1 53 0 9))) + (nI 0))) (gI Y14.1 53 0 6)) fun Y18 => ck (inb (((nI 118) + ((nI 6) * (gI Y14.1 53 0 9))) + (nI 1)) 718) <| wr (sI Y18 53 0 (ix (((nI 118) + ((nI 6) * (gI Y14.1 53 0 9))) + (nI 1))) v7) fun Y20 => ck (inb (((nI 118) + ((nI 6) * (gI Y14.1 53 0 9))) + (nI 2)) 718) <| wr (sI Y20 53 0 (ix (((nI 118) + ((nI 6) * (gI Y14.1 53 0 9))) + (nI 2))) v10) fun Y22 => ck (inb (((nI 118) + ((nI 6) * (gI Y14.1 53 0 9))) + (nI 3)) 718) <| wr (sI Y22 53 0 (ix (((nI 118) + ((nI 6) * (gI Y14.1 53 0 9))) + (nI 3))) v13) fun Y24 => ck (inb (((nI 118) + ((nI 6) * (gI Y14.1 53 0 9))) + (nI 4)) 718) <| wr (sI Y24 53 0 (ix (((nI 118) + ((nI 6) * (gI Y14.1 53 0 9))) + (nI 4))) v13) fun Y26 => wr (sI Y26 53 0 9 ((gI Y26.1 53 0 9) + (nI 1))) fun Y27 => wr (sI Y27 53 0 6 ((gI Y27.1 53 0 6) + (nI 1))) fun Y28 => some ((), Y28))) := by
      unfold fn_290
      rw [q3, iteI_le_f (by omega) (by omega)]
      unfold fn_290_J18
      rw [r_needs, bd_t, eW1, bd_t, g4]
    have cl : fn_66 X = (bd (fn_98 X1) fun v5 Y3 => (if v5 = (nI 0) then bd (fn_60 (nI 1) Y3) fun v44 Y42 => ck (bz v44) <| some (v44, Y42) else bd (fn_100 Y3) fun v8 Y6 => bd (fn_57 (Y3.2 2) v8 Y6) fun v11 Y9 => (if v11 = (-1 : Int32) then bd (fn_60 (nI 3) Y9) fun v40 Y38 => ck (bz v40) <| some (v40, Y38) else bd (fn_95 Y9) fun _ Y12 => bd (fn_98 Y12) fun v16 Y14 => (if v16 = (nI 0) then bd (fn_60 (nI 1) Y14) fun v36 Y34 => ck (bz v36) <| some (v36, Y34) else bd (fn_100 Y14) fun v19 Y17 => bd (fn_56 (Y14.2 2) v19 Y17) fun v22 Y20 => (if v22 = (-1 : Int32) then bd (fn_60 (nI 3) Y20) fun v32 Y30 => ck (bz v32) <| some (v32, Y30) else bd (fn_95 Y20) fun _ Y23 => bd (fn_69 (nI 1) (nI 20) Y23) fun v27 Y25 => bd (fn_36 (Y25.2 2) (gI Y25.1 12 (Y25.2 2) 1) v11 v22 v27 (nI 0) Y25) fun _ Y28 => (if (gI Y28.1 3 0 3) = (nI 0) then some ((nI 1), Y28) else some ((nI 0), Y28))))))) := by
      unfold fn_66
      rw [hd, q1, iteI_lt_t c (by omega), eX1, bd_t]
    -- an error at a name
    have rerr1 : ∀ e v, 1 ≤ e → e ≤ 5 → fn_284_48_64 (nI A) W1 = some (v, erM W1 (nI e)) → fn_290 W = some ((), erM W1 (nI e)) := fun e v h1 h5 q => by
      have nb := erM_ne (W := W1) h1 h5
      have e33 : gI (erM W1 (nI e)).1 48 0 33 = nI C := by
        unfold erM
        rw [gI_sIv, upd_ne (by omega), gI_sIv, upd_ne (by omega)]
        exact g3
      obtain ⟨v2, ev2⟩ := r_284_63b nb hC
      rw [rl, q, bd_t, e33, ev2, bd_t, r_281b nb, bd_t, r_bad nb, bd_t, if_pos rfl]
    cases hnm : nmb L B (nxt L B s) with
    | false =>
      obtain ⟨v, ev⟩ := (r_284_64 r1.2.2.1 h01 hA).1 hnm
      refine ⟨nI 0, _, _, ?_, rerr1 1 v (by omega) (by omega) ev, Ou.err (by omega) (by omega) (n1.1.d4.tr erC_f) (n1.2.1.w.tr erM_f) r1.2.1 r1.2.2.1 erC_3 erC_4 erM_31 erM_32⟩
      rw [cl, c_nm r1.2.1, hnm, bd_t, bI_f, if_pos rfl, c_60, bd_t, ck_t (by decide)]
    | true =>
      have fe := r1.2.2.2.2.fdA hnm
      rw [c_nm r1.2.1, hnm, bd_t, bI_t, if_neg (by decide), c_nv r1.2.1 hnm, bd_t, hd1, c_57 _ g2 hA, bd_t, fe] at cl
      by_cases q : sres (fun k => decide (gJ W1.1 64 0 k = nmM L B (nxt L B s))) A = (-1 : Int32)
      · obtain ⟨v, ev⟩ := ((r_284_64 r1.2.2.1 h01 hA).2 hnm).1 q
        refine ⟨nI 0, _, _, ?_, rerr1 3 v (by omega) (by omega) ev, Ou.err (by omega) (by omega) (n1.1.d4.tr erC_f) (n1.2.1.w.tr erM_f) r1.2.1 r1.2.2.1 erC_3 erC_4 erM_31 erM_32⟩
        rw [cl, if_pos q, c_60, bd_t, ck_t (by decide)]
      · obtain ⟨W2, eW2, fW2, tW2⟩ := ((r_284_64 r1.2.2.1 h01 hA).2 hnm).2 q
        obtain ⟨X2, eX2, fX2, tX2⟩ := c_next r1.2.1
        have n2 : Nxt L B (nxt L B s) X1 W1 X2 W2 := ⟨fX2, fW2, tX2, tW2⟩
        have r2 := r1.nx n2
        have hd2 : X2.2 2 = d := r2.1
        obtain ⟨_, ⟨p1, p2, p3, p4⟩, _⟩ := r2.2.2.2.2
        have h02 : gI W2.1 48 0 31 = nI 0 := r2.2.2.2.1.2.2.1
        have hqa : ∃ a, a < A ∧ sres (fun k => decide (gJ W1.1 64 0 k = nmM L B (nxt L B s))) A = nI a := by
          rcases sres_c (fun k => decide (gJ W1.1 64 0 k = nmM L B (nxt L B s))) A with z | ⟨j, hj, _, z⟩
          · exact absurd z q
          · exact ⟨j, hj, z⟩
        obtain ⟨a, ha, ea⟩ := hqa
        rw [if_neg q, eX2, bd_t] at cl
        rw [eW2, bd_t, p3] at rl
        have fX : Fr (SD d) X X2 := n1.1.d4.tr fX2.d4
        have fW : FrW W W2 := n1.2.1.w.tr fW2.w
        have hs2 : s < nxt L B s := nxt_gt hs
        have hs3 : nxt L B s ≤ nxt L B (nxt L B s) := Nat.le_trans edS_ge rn_ge
        have rerr2 : ∀ e v, 1 ≤ e → e ≤ 5 → fn_284_48_63 (nI C) W2 = some (v, erM W2 (nI e)) → fn_290 W = some ((), erM W2 (nI e)) := fun e v h1 h5 q => by
          have nb := erM_ne (W := W2) h1 h5
          rw [rl, q, bd_t, r_281b nb, bd_t, r_bad nb, bd_t, if_pos rfl]
        cases hnm2 : nmb L B (nxt L B (nxt L B s)) with
        | false =>
          obtain ⟨v, ev⟩ := (r_284_63 r2.2.2.1 h02 hC).1 hnm2
          refine ⟨nI 0, _, _, ?_, rerr2 1 v (by omega) (by omega) ev, Ou.err (by omega) (by omega) (fX.tr erC_f) (fW.tr erM_f) r2.2.1 r2.2.2.1 erC_3 erC_4 erM_31 erM_32⟩
          rw [cl, c_nm r2.2.1, hnm2, bd_t, bI_f, if_pos rfl, c_60, bd_t, ck_t (by decide)]
        | true =>
          have fe2 := r2.2.2.2.2.fdK hnm2
          rw [c_nm r2.2.1, hnm2, bd_t, bI_t, if_neg (by decide), c_nv r2.2.1 hnm2, bd_t, hd2, c_56 _ p1 hC, bd_t, fe2] at cl
          by_cases qq : sres (fun k => decide (gJ W2.1 63 0 k = nmM L B (nxt L B (nxt L B s)))) C = (-1 : Int32)
          · obtain ⟨v, ev⟩ := ((r_284_63 r2.2.2.1 h02 hC).2 hnm2).1 qq
            refine ⟨nI 0, _, _, ?_, rerr2 3 v (by omega) (by omega) ev, Ou.err (by omega) (by omega) (fX.tr erC_f) (fW.tr erM_f) r2.2.1 r2.2.2.1 erC_3 erC_4 erM_31 erM_32⟩
            rw [cl, if_pos qq, c_60, bd_t, ck_t (by decide)]
          · obtain ⟨W3, eW3, fW3, tW3⟩ := ((r_284_63 r2.2.2.1 h02 hC).2 hnm2).2 qq
            obtain ⟨X3, eX3, fX3, tX3⟩ := c_next r2.2.1
            have n3 : Nxt L B (nxt L B (nxt L B s)) X2 W2 X3 W3 := ⟨fX3, fW3, tX3, tW3⟩
            have r3 := r2.nx n3
            have h03 : gI W3.1 48 0 31 = nI 0 := r3.2.2.2.1.2.2.1
            have hqk : ∃ k, k < C ∧ sres (fun k => decide (gJ W2.1 63 0 k = nmM L B (nxt L B (nxt L B s)))) C = nI k := by
              rcases sres_c (fun k => decide (gJ W2.1 63 0 k = nmM L B (nxt L B (nxt L B s)))) C with z | ⟨j, hj, _, z⟩
              · exact absurd z qq
              · exact ⟨j, hj, z⟩
            obtain ⟨k, hk, ek⟩ := hqk
            rw [if_neg qq, eX3, bd_t, ea, ek] at cl
            rw [eW3, bd_t, ea, ek] at rl
            have hs4 : nxt L B (nxt L B s) ≤ nxt L B (nxt L B (nxt L B s)) := Nat.le_trans edS_ge rn_ge
            rcases nu_read (lo := 1) (hi := 20) tX3 tW3 h03 (by omega) (by omega) with ⟨l, X4, W4, hl1, hl2, e69, e281, n4⟩ | ⟨e, v, he1, he5, e69, e281⟩
            · have r4 := r3.nx n4
              have hd4 : X4.2 2 = d := r4.1
              have h04 : gI W4.1 48 0 31 = nI 0 := r4.2.2.2.1.2.2.1
              have hD4 := r4.2.2.2.2
              obtain ⟨_, _, _, _, _, ⟨⟨t1, t2, t3, t4⟩, _⟩, _⟩ := r4.2.2.2.2
              have hs5 : nxt L B (nxt L B (nxt L B s)) ≤ nxt L B (nxt L B (nxt L B (nxt L B s))) := Nat.le_trans edS_ge rn_ge
              have z3 : gI (rqX X4 d n a k (nI l)).1 3 0 3 = nI 0 := by rw [rqX_o (by decide)]; exact r4.2.2.2.1.1
              rw [e69, bd_t, hd4, t1, c_36s t1 c, bd_t, if_pos z3] at cl
              rw [e281, bd_t, r_fine h04, bd_t, if_neg (by decide), t3, t4, pk_mul, nI_add, nI_add, nI_add, nI_add, nI_add, nI_add, ck_in (by omega) (by omega), ix_nI (by omega), wr_t, ck_in (by omega) (by omega), ix_nI (by omega), wr_t, ck_in (by omega) (by omega), ix_nI (by omega), wr_t, ck_in (by omega) (by omega), ix_nI (by omega), wr_t, ck_in (by omega) (by omega), ix_nI (by omega), wr_t] at rl
              generalize hV : sI (sI (sI (sI (sI W4 53 0 (118 + 6 * n + 0) (nI n)) 53 0 (118 + 6 * n + 1) (nI a)) 53 0 (118 + 6 * n + 2) (nI k)) 53 0 (118 + 6 * n + 3) (nI l)) 53 0 (118 + 6 * n + 4) (nI l) = V at rl
              have v53 : gI V.1 53 0 = upd (upd (upd (upd (upd (gI W4.1 53 0) (118 + 6 * n) (nI n)) (118 + 6 * n + 1) (nI a)) (118 + 6 * n + 2) (nI k)) (118 + 6 * n + 3) (nI l)) (118 + 6 * n + 4) (nI l) := by
                rw [← hV, gI_sIv, gI_sIv, gI_sIv, gI_sIv, gI_sIv]
                rfl
              have vo : ∀ q, q ≠ 53 → gI V.1 q = gI W4.1 q := fun q hq => by rw [← hV, gI_sIk hq, gI_sIk hq, gI_sIk hq, gI_sIk hq, gI_sIk hq]
              have vj : gJ V.1 = gJ W4.1 := by rw [← hV]; rfl
              have e9 : gI V.1 53 0 9 = nI n := by rw [v53, upd_ne (by omega), upd_ne (by omega), upd_ne (by omega), upd_ne (by omega), upd_ne (by omega)]; exact t3
              have e6 : gI (sI V 53 0 9 (nI (n + 1))).1 53 0 6 = nI n := by rw [gI_sIv, upd_ne (by omega), v53, upd_ne (by omega), upd_ne (by omega), upd_ne (by omega), upd_ne (by omega), upd_ne (by omega)]; exact t4
              have fV : FrW W4 V := by rw [← hV]; exact ((((FrW.sk (by decide)).tr (FrW.sk (by decide))).tr (FrW.sk (by decide))).tr (FrW.sk (by decide))).tr (FrW.sk (by decide))
              rw [e9, nI_add, wr_t, e6, nI_add, wr_t] at rl
              have fX4 : Fr (SD d) X X4 := (fX.tr fX3.d4).tr n4.1.d4
              have fW4 : FrW W W4 := (fW.tr fW3.w).tr n4.2.1.w
              refine ⟨nI 1, _, _, cl, rl, fX4.tr rqX_f, (fW4.tr fV).tr ((FrW.sk (by decide)).tr (FrW.sk (by decide))), Or.inl ⟨rfl, nxt L B (nxt L B (nxt L B (nxt L B s))), C, A, n + 1, by omega, ?_⟩⟩
              refine ⟨hd4, r4.2.1.cg (by rw [rqX_o (by decide)]) (by rw [rqX_o (by decide)]) (by rw [rqX_o (by decide)]), r4.2.2.1.cg (by rw [gI_sIk (by omega), gI_sIk (by omega), vo 60 (by omega)]) (fun y h1 h2 => by rw [gI_sIk (by omega), gI_sIk (by omega), vo 48 (by omega)]) (by rw [gJ_sI, gJ_sI, vj]), ?_, ?_⟩
              · obtain ⟨e1, e2, e3, e4⟩ := r4.2.2.2.1
                unfold NE
                rw [rqX_o (by decide), gI_sIk (by omega), gI_sIk (by omega), vo 48 (by omega)]
                exact ⟨e1, e2, e3, e4⟩
              · refine Dr.addQ hD4 c ha hk ⟨hl1, hl2⟩ ?_ (fun q hq => ?_) (fun x hx => ?_)
                · rw [gI_sIv, gI_sIv, v53]
                  rfl
                · have q53 : q ≠ 53 := fun z => by rw [z] at hq; exact absurd hq (by decide)
                  rw [gI_sIk q53, gI_sIk q53, vo q q53, gJ_sI, gJ_sI, vj]
                  exact ⟨rfl, rfl⟩
                · rw [gI_sIk (by omega), gI_sIk (by omega), vo 48 (by omega)]
            · have nb := erM_ne (W := W3) he1 he5
              have z : gI (rqX (erC X3 (nI e)) d n a k (-1 : Int32)).1 3 0 3 ≠ nI 0 := by
                rw [rqX_o (by decide), erC_3]
                exact fun q => by have := (nI_eq (by omega) (by omega)).mp q; omega
              have t1 : gI (erC X3 (nI e)).1 12 d 1 = nI n := by
                unfold erC
                rw [gI_sIk (by omega), gI_sIk (by omega)]
                exact r3.2.2.2.2.2.2.2.2.2.1.1.1
              have hd3 : (erC X3 (nI e)).2 2 = d := r3.1
              rw [e69, bd_t, hd3, t1, c_36s t1 c, bd_t, if_neg z] at cl
              rw [e281, bd_t, r_bad nb, bd_t, if_pos rfl] at rl
              refine ⟨nI 0, _, _, cl, rl, Ou.err he1 he5 (((fX.tr fX3.d4).tr erC_f).tr rqX_f) ((fW.tr fW3.w).tr erM_f) tX3 tW3 ?_ ?_ erM_31 erM_32⟩
              · rw [rqX_o (by decide), erC_3]
              · rw [rqX_o (by decide), erC_4]
  · have nb := erM_ne (W := W) (e := 4) (by omega) (by omega)
    refine ⟨nI 0, erC X (nI 4), erM W (nI 4), ?_, ?_, Ou.err (by omega) (by omega) erC_f erM_f h.2.1 h.2.2.1 erC_3 erC_4 erM_31 erM_32⟩
    · unfold fn_66
      rw [hd, q1, iteI_lt_f (by omega) (by omega), c_60, bd_t, ck_t (by decide)]
    · have := r_need (W := W) (b := false) (e := 4) h0
      rw [bI_f, cnd_f] at this
      have e34 : gI (erM W (nI 4)).1 48 0 34 = nI A := by
        unfold erM
        rw [gI_sIv, upd_ne (by omega), gI_sIv, upd_ne (by omega)]
        exact d4
      have e33 : gI (erM W (nI 4)).1 48 0 33 = nI C := by
        unfold erM
        rw [gI_sIv, upd_ne (by omega), gI_sIv, upd_ne (by omega)]
        exact d3
      obtain ⟨v1, ev1⟩ := r_284_64b nb hA
      obtain ⟨v2, ev2⟩ := r_284_63b nb hC
      unfold fn_290
      rw [q3, iteI_le_t (by omega) (by omega)]
      unfold fn_290_J18
      rw [this, bd_t, r_goOnb nb, bd_t, e34, ev1, bd_t, e33, ev2, bd_t, r_281b nb, bd_t, r_bad nb, bd_t, if_pos rfl]
