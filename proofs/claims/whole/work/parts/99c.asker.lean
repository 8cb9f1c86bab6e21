/-! the statement of an asker -/
theorem upd_upd {f : Nat → Int32} {a : Nat} {v w : Int32} : upd (upd f a v) a w = upd f a w := by
  funext q
  by_cases c : q = a
  · rw [c, upd_at, upd_at]
  · rw [upd_ne c, upd_ne c, upd_ne c]
theorem Dr.addA {X W X' W' : Sm} {d C A n x w : Nat} {v v' : Int64} (h : Dr X W d C A n) (hA8 : A < 8) (hv : NmR v v') (hx : x ≤ 999) (hw : 1 ≤ w ∧ w ≤ 9) (hX' : sI (sI (sI (sJ X 8 d A v) 9 d A (nI x)) 10 d A (nI w)) 5 d 3 (nI (A + 1)) = X') (w53 : gI W'.1 53 0 = upd (gI W.1 53 0) (20 + A) (nI x)) (w62 : gI W'.1 62 0 = upd (gI W.1 62 0) A (nI w)) (w61 : gI W'.1 61 0 = gI W.1 61 0) (w63 : gJ W'.1 63 0 = gJ W.1 63 0) (w64 : ∀ k, gJ W'.1 64 0 k = if k = A then v' else gJ W.1 64 0 k) (w33 : gI W'.1 48 0 33 = gI W.1 48 0 33) (w35 : gI W'.1 48 0 35 = gI W.1 48 0 35) (w34 : gI W'.1 48 0 34 = nI (A + 1)) : Dr X' W' d C (A + 1) n := by
  obtain ⟨h0, ⟨a1, a2, a3, a4⟩, hK, hA, hS, hQ, hZ, hT, hM⟩ := h
  have x5 : gI X'.1 5 d = upd (gI X.1 5 d) 3 (nI (A + 1)) := by rw [← hX', gI_sIv, gI_sIk (by omega), gI_sIk (by omega), gI_sJ]
  have x9 : gI X'.1 9 d = upd (gI X.1 9 d) A (nI x) := by rw [← hX', gI_sIk (by omega), gI_sIk (by omega), gI_sIv, gI_sJ]
  have x10 : gI X'.1 10 d = upd (gI X.1 10 d) A (nI w) := by rw [← hX', gI_sIk (by omega), gI_sIv, gI_sIk (by omega), gI_sJ]
  have xo : ∀ k, k ≠ 5 → k ≠ 9 → k ≠ 10 → gI X'.1 k = gI X.1 k := fun k h1 h2 h3 => by rw [← hX', gI_sIk h1, gI_sIk h3, gI_sIk h2, gI_sJ]
  have x8 : ∀ k, gJ X'.1 8 d k = if k = A then v else gJ X.1 8 d k := fun k => by
    rw [← hX', gJ_sI, gJ_sI, gJ_sI, gJ_sJ]
    by_cases c : k = A
    · rw [if_pos ⟨rfl, rfl, c⟩, if_pos c]
    · rw [if_neg (fun q => c q.2.2), if_neg c]
  have x6 : gJ X'.1 6 d = gJ X.1 6 d := by
    rw [← hX', gJ_sI, gJ_sI, gJ_sI]
    funext k
    rw [gJ_sJ, if_neg (fun q => absurd q.1 (by decide))]
  refine ⟨by omega, ⟨by rw [x5, upd_ne (by omega)]; exact a1, by rw [x5, upd_at], w33.trans a3, w34⟩, fun k hk => ?_, fun a ha => ?_, fun j hj => ?_, ?_, ?_, ?_, ?_⟩
  · rw [x6, w63, xo 7 (by omega) (by omega) (by omega), w53, upd_ne (by omega)]
    exact hK k hk
  · rw [x8, w64, x9, x10, w62, w53]
    by_cases c : a = A
    · rw [if_pos c, if_pos c, c, upd_at, upd_at, upd_at, upd_at]
      exact ⟨hv, ⟨x, hx, rfl, rfl⟩, w, hw.1, hw.2, rfl, rfl⟩
    · rw [if_neg c, if_neg c, upd_ne c, upd_ne (by omega), upd_ne c, upd_ne c]
      exact hA a (by omega)
  · rw [xo 11 (by omega) (by omega) (by omega), w61]
    exact hS j hj
  · obtain ⟨q1, q2⟩ := hQ
    unfold DrQ
    rw [xo 12 (by omega) (by omega) (by omega), xo 19 (by omega) (by omega) (by omega), xo 14 (by omega) (by omega) (by omega), xo 15 (by omega) (by omega) (by omega), xo 16 (by omega) (by omega) (by omega), xo 17 (by omega) (by omega) (by omega), xo 18 (by omega) (by omega) (by omega), w53]
    refine ⟨by rw [upd_ne (by omega), upd_ne (by omega)]; exact q1, fun j hj => ?_⟩
    obtain ⟨a, k, l, b1, b2, b3⟩ := q2 j hj
    rw [upd_ne (by omega), upd_ne (by omega), upd_ne (by omega), upd_ne (by omega), upd_ne (by omega)]
    exact ⟨a, k, l, by omega, b2, b3⟩
  · obtain ⟨z1, z2, z3, z4, z5⟩ := hZ
    unfold DrZ
    rw [w53]
    refine ⟨fun q hq => ?_, by rw [upd_ne (by omega)]; exact z2, fun q h1 h2 => by rw [upd_ne (by omega)]; exact z3 q h1 h2, fun j hj => by rw [upd_ne (by omega)]; exact z4 j hj, fun k h1 h2 => by rw [upd_ne (by omega)]; exact z5 k h1 h2⟩
    rw [upd_ne (by
      simp only [List.mem_cons, List.mem_nil_iff, or_false] at hq
      omega)]
    exact z1 q hq
  · obtain ⟨t, t1, t2, t3⟩ := hT
    exact ⟨t, t1, by rw [x5, upd_ne (by omega)]; exact t2, by rw [w53, upd_ne (by omega)]; exact t3⟩
  · unfold Mk
    rw [xo 3 (by omega) (by omega) (by omega), w35]
    exact hM
/-- what the reference does behind an asker's name -/
def asK (A : Int32) (V : Sm) : Option (Unit × Sm) :=
  bd (fn_279 (nI 5) V) fun v15 Y13 => bd (fn_277 v15 (nI 1) Y13) fun _ Y16 => bd (fn_278 Y16) fun _ Y18 => bd (fn_281 (nI 0) (nI 999) Y18) fun v22 Y20 => ck (inb ((nI 20) + A) 718) <| wr (sI Y20 53 0 (ix ((nI 20) + A)) v22) fun Y24 => wr (sI Y24 62 0 (ix A) (nI 1)) fun Y25 => bd (fn_279 (nI 6) Y25) fun v28 Y26 => (if v28 = (nI 0) then wr (sI Y26 48 0 34 (A + (nI 1))) fun Y29 => some ((), Y29) else bd (fn_278 Y26) fun _ Y30 => bd (fn_281 (nI 1) (nI 9) Y30) fun v34 Y32 => wr (sI Y32 62 0 (ix A) v34) fun Y35 => wr (sI Y35 48 0 34 (A + (nI 1))) fun Y36 => some ((), Y36))
def asE (A : Nat) (V : Sm) (v : Int32) : Sm := sI (sI (sI V 53 0 (20 + A) v) 62 0 A (nI 1)) 48 0 34 (nI (A + 1))
theorem asE_x {A : Nat} {V : Sm} {v : Int32} {x : Nat} (h : x ≠ 34) : gI (asE A V v).1 48 0 x = gI V.1 48 0 x := by
  unfold asE
  rw [gI_sIv, upd_ne h, gI_sIk (by omega), gI_sIk (by omega)]
theorem asE_f {A : Nat} {V : Sm} {v : Int32} : FrW V (asE A V v) := ((FrW.sk (by decide)).tr (FrW.sk (by decide))).tr (FrW.s48 (by omega))
theorem as_t {A : Nat} {V : Sm} {v : Int32} (hA : A < 8) (h : gI V.1 48 0 31 ≠ nI 0) : (ck (inb ((nI 20) + nI A) 718) <| wr (sI V 53 0 (ix ((nI 20) + nI A)) v) fun Y24 => wr (sI Y24 62 0 (ix (nI A)) (nI 1)) fun Y25 => bd (fn_279 (nI 6) Y25) fun v28 Y26 => (if v28 = (nI 0) then wr (sI Y26 48 0 34 (nI A + (nI 1))) fun Y29 => some ((), Y29) else bd (fn_278 Y26) fun _ Y30 => bd (fn_281 (nI 1) (nI 9) Y30) fun v34 Y32 => wr (sI Y32 62 0 (ix (nI A)) v34) fun Y35 => wr (sI Y35 48 0 34 (nI A + (nI 1))) fun Y36 => some ((), Y36))) = some ((), asE A V v) := by
  rw [nI_add, ck_in (by omega) (by omega), ix_nI (by omega), ix_nI (by omega), wr_t, wr_t, r_wb (by rw [gI_sIk (by omega), gI_sIk (by omega)]; exact h), bd_t, if_pos rfl, nI_add, wr_t]
  rfl
theorem asK_b {A : Nat} {V : Sm} (hA : A < 8) (h : gI V.1 48 0 31 ≠ nI 0) : asK (nI A) V = some ((), asE A V (gI V.1 48 0 29)) := by
  unfold asK
  rw [r_wb h, bd_t, r_needsb h, bd_t, r_goOnb h, bd_t, r_281b h, bd_t, as_t hA h]
theorem Ou.err {d L s e : Nat} {B : Nat → Nat} {X W X1 W1 Z Z2 : Sm} (h1 : 1 ≤ e) (h5 : e ≤ 5) (fX : Fr (SD d) X Z) (fW : FrW W Z2) {s1 : Nat} (tX : TkC X1 L B s1) (tW : TkM W1 L B s1) (e3 : gI Z.1 3 0 3 = nI e) (e4 : gI Z.1 3 0 4 = gI X1.1 4 0 2) (e31 : gI Z2.1 48 0 31 = nI e) (e32 : gI Z2.1 48 0 32 = gI W1.1 48 0 26) : Ou d L B s X W (nI 0) Z Z2 :=
  ⟨fX, fW, Or.inr ⟨rfl, e, nI s1, h1, h5, e3, by rw [e4]; exact tX.2.2.2.1, e31, by rw [e32]; exact tW.2.2.1⟩⟩
theorem s_asker {d L s C A n : Nat} {B : Nat → Nat} {X W : Sm} (h : RdR d L B s C A n X W) (hs : s < L) : ∃ v Z Z2, fn_65 X = some (v, Z) ∧ fn_286 W = some ((), Z2) ∧ Ou d L B s X W v Z Z2 := by
  have hD := h.2.2.2.2
  have hd : X.2 2 = d := h.1
  obtain ⟨⟨hC, hA, hn⟩, ⟨d1, d2, d3, d4⟩, _⟩ := hD
  have h0 := h.2.2.2.1.2.2.1
  by_cases c : A < 8
  · obtain ⟨X1, W1, eX1, eW1, n1⟩ := h.step
    have r1 := h.nx n1
    have hd1 : X1.2 2 = d := r1.1
    obtain ⟨_, ⟨g1, g2, g3, g4⟩, _⟩ := r1.2.2.2.2
    have h01 := r1.2.2.2.1.2.2.1
    have rl : fn_286 W = (bd (fn_283_48_64 (nI A) W1) fun v10 Y8 => ck (inb (nI A) 8) <| wr (sJ Y8 64 0 (ix (nI A)) v10) fun Y12 => asK (nI A) Y12) := by
      unfold fn_286
      rw [d4, iteI_le_f (by omega) (by omega)]
      unfold fn_286_J15
      rw [r_needs, bd_t, eW1, bd_t, r_fine h01, bd_t, if_neg (by decide), g4]
      rfl
    have rerr : ∀ e v, 1 ≤ e → e ≤ 5 → fn_283_48_64 (nI A) W1 = some (v, erM W1 (nI e)) → fn_286 W = some ((), asE A (sJ (erM W1 (nI e)) 64 0 A v) (gI (erM W1 (nI e)).1 48 0 29)) := fun e v h1 h5 q => by
      have nb := erM_ne (W := W1) h1 h5
      rw [rl, q, bd_t, ck_in (by omega) (by omega), ix_nI (by omega), wr_t, asK_b c (by rw [gI_sJ]; exact nb), gI_sJ]
    have oerr : ∀ e v x, 1 ≤ e → e ≤ 5 → Ou d L B s X W (nI 0) (erC X1 (nI e)) (asE A (sJ (erM W1 (nI e)) 64 0 A v) x) := fun e v x h1 h5 =>
      Ou.err h1 h5 (n1.1.d4.tr erC_f) ((n1.2.1.w.tr erM_f).tr ((FrW.sj (by decide)).tr asE_f)) r1.2.1 r1.2.2.1 erC_3 erC_4 (by rw [asE_x (by omega), gI_sJ, erM_31]) (by rw [asE_x (by omega), gI_sJ, erM_32])
    have cl : fn_65 X = (bd (fn_98 X1) fun v5 Y3 => (if v5 = (nI 0) then bd (fn_60 (nI 1) Y3) fun v42 Y40 => ck (bz v42) <| some (v42, Y40) else bd (fn_100 Y3) fun v8 Y6 => bd (fn_57 (Y6.2 2) v8 Y6) fun v11 Y9 => (if v11 = (-1 : Int32) then bd (fn_95 Y9) fun _ Y12 => bd (fn_97 5 Y12) fun v16 Y14 => (if v16 = (nI 0) then bd (fn_60 (nI 1) Y14) fun v34 Y32 => ck (bz v34) <| some (v34, Y32) else bd (fn_95 Y14) fun _ Y17 => bd (fn_69 (nI 0) (nI 999) Y17) fun v21 Y19 => (if (gI Y19.1 3 0 3) = (nI 0) then bd (fn_97 6 Y19) fun v26 Y24 => (if v26 = (nI 0) then fn_65_J146 v8 v21 (nI 1) Y24 else bd (fn_95 Y24) fun _ Y27 => bd (fn_69 (nI 1) (nI 9) Y27) fun v31 Y29 => fn_65_J146 v8 v21 v31 Y29) else fn_65_J146 v8 v21 (nI 1) Y19)) else bd (fn_60 (nI 3) Y9) fun v38 Y36 => ck (bz v38) <| some (v38, Y36)))) := by
      unfold fn_65
      rw [hd, d2, iteI_lt_t c (by omega), eX1, bd_t]
    cases hnm : nmb L B (nxt L B s) with
    | false =>
      obtain ⟨v, ev⟩ := (r_283_64 r1.2.2.1 h01 hA).1 hnm
      refine ⟨nI 0, _, _, ?_, rerr 1 v (by omega) (by omega) ev, oerr 1 v _ (by omega) (by omega)⟩
      rw [cl, c_nm r1.2.1, hnm, bd_t, bI_f, if_pos rfl, c_60, bd_t, ck_t (by decide)]
    | true =>
      have fe := r1.2.2.2.2.fdA hnm
      have cl2 := cl
      rw [c_nm r1.2.1, hnm, bd_t, bI_t, if_neg (by decide), c_nv r1.2.1 hnm, bd_t, hd1, c_57 _ g2 hA, bd_t, fe] at cl2
      by_cases q : sres (fun k => decide (gJ W1.1 64 0 k = nmM L B (nxt L B s))) A = (-1 : Int32)
      · obtain ⟨W2, eW2, fW2, tW2⟩ := ((r_283_64 r1.2.2.1 h01 hA).2 hnm).2 q
        obtain ⟨X2, eX2, fX2, tX2⟩ := c_next r1.2.1
        have n2 : Nxt L B (nxt L B s) X1 W1 X2 W2 := ⟨fX2, fW2, tX2, tW2⟩
        have r2 := r1.nx n2
        have hd2 : X2.2 2 = d := r2.1
        have h02 : gI W2.1 48 0 31 = nI 0 := r2.2.2.2.1.2.2.1
        rw [if_pos q, eX2, bd_t] at cl2
        have rl2 := rl
        rw [eW2, bd_t, ck_in (by omega) (by omega), ix_nI (by omega), wr_t] at rl2
        generalize hV : sJ W2 64 0 A (nmM L B (nxt L B s)) = V at rl2
        have tV : TkM V L B (nxt L B (nxt L B s)) := by
          obtain ⟨a1, a2, a3, a4, a5, a6, a7⟩ := tW2
          rw [← hV]
          exact ⟨a1, a2, a3, a4, a5, fun k => ⟨(a6 k).1, by rw [gJ_sJ, if_neg (fun q => absurd q.1 (by decide))]; exact (a6 k).2⟩, a7⟩
        have h0V : gI V.1 48 0 31 = nI 0 := by rw [← hV]; exact h02
        have fV : FrW W V := by rw [← hV]; exact (n1.2.1.w.tr fW2.w).tr (FrW.sj (by decide))
        have fX : Fr (SD d) X X2 := n1.1.d4.tr fX2.d4
        -- the writes into the draft
        have c55 : ∀ Y x w, gI Y.1 5 d 3 = nI A → Y.2 2 = d → fn_65_J146 (nmC L B (nxt L B s)) x w Y = some ((if gI Y.1 3 0 3 = nI 0 then nI 1 else nI 0), sI (sI (sI (sJ Y 8 d A (nmC L B (nxt L B s))) 9 d A x) 10 d A w) 5 d 3 (nI (A + 1))) := fun Y x w e e2 => by
          unfold fn_65_J146
          rw [e2]
          unfold fn_55
          rw [e, iteI_le_f (by omega) (by omega), ck_in (by omega) (by omega), ix_nI (by omega), wr_t, gI_sJ, e, ck_in (by omega) (by omega), ix_nI (by omega), wr_t, gI_sIk (by omega), gI_sJ, e, ck_in (by omega) (by omega), ix_nI (by omega), wr_t, gI_sIk (by omega), gI_sIk (by omega), gI_sJ, e, wr_t, nI_add, bd_t, gI_sIk (by omega), gI_sIk (by omega), gI_sIk (by omega), gI_sJ]
          by_cases z : gI Y.1 3 0 3 = nI 0
          · rw [if_pos z, if_pos z]
          · rw [if_neg z, if_neg z]
        have m8 : SD d 8 d := SDm (by decide)
        have m9 : SD d 9 d := SDm (by decide)
        have m10 : SD d 10 d := SDm (by decide)
        have m5 : SD d 5 d := SDm (by decide)
        have f55 : ∀ (Y : Sm) (x w : Int32), Fr (SD d) Y (sI (sI (sI (sJ Y 8 d A (nmC L B (nxt L B s))) 9 d A x) 10 d A w) 5 d 3 (nI (A + 1))) := fun Y x w => (((Fr.sJ m8).tr (Fr.sI m9)).tr (Fr.sI m10)).tr (Fr.sI m5)
        have o3 : ∀ (Y : Sm) (x w : Int32) (k : Nat), k ≠ 9 → k ≠ 10 → k ≠ 5 → gI (sI (sI (sI (sJ Y 8 d A (nmC L B (nxt L B s))) 9 d A x) 10 d A w) 5 d 3 (nI (A + 1))).1 k = gI Y.1 k := fun Y x w k h1 h2 h3 => by rw [gI_sIk h3, gI_sIk h2, gI_sIk h1, gI_sJ]
        have a5 : ∀ Y, Fr (KS [4]) X2 Y → gI Y.1 5 d 3 = nI A ∧ Y.2 2 = d := fun Y hF => ⟨by rw [hF.gI (by unfold KS; decide)]; exact r2.2.2.2.2.2.1.2.1, by rw [hF.1]; exact hd2⟩
        have k3 : ∀ Y, Fr (KS [4]) X2 Y → gI Y.1 3 0 3 = nI 0 := fun Y hF => by rw [hF.gI (by unfold KS; decide)]; exact r2.2.2.2.1.1
        rw [c_is tX2 (by omega), bd_t, bI_0] at cl2
        have hs2 : s < nxt L B s := nxt_gt hs
        have hs3 : nxt L B s ≤ nxt L B (nxt L B s) := Nat.le_trans edS_ge rn_ge
        cases hw5 : wb L B (nxt L B (nxt L B s)) 5 with
        | false =>
          have nb := erM_ne (W := V) (e := 1) (by omega) (by omega)
          rw [hw5, cnd_f, c_60, bd_t, ck_t (by decide)] at cl2
          refine ⟨nI 0, _, _, cl2, ?_, Ou.err (by omega) (by omega) (fX.tr erC_f) ((fV.tr erM_f).tr (asE_f (A := A) (v := gI (erM V (nI 1)).1 48 0 29))) tX2 tV erC_3 erC_4 (by rw [asE_x (by omega), erM_31]) (by rw [asE_x (by omega), erM_32])⟩
          rw [rl2]
          unfold asK
          rw [r_w tV h0V (by omega), hw5, bd_t, r_need h0V, cnd_f, bd_t, r_goOnb nb, bd_t, r_281b nb, bd_t, as_t c nb]
        | true =>
          obtain ⟨X3, eX3, fX3, tX3⟩ := c_next tX2
          obtain ⟨V3, eV3, fV3, tV3⟩ := r_goOn tV h0V
          have h03 : gI V3.1 48 0 31 = nI 0 := (fV3.2.2 31 (by omega)).trans h0V
          rw [hw5, cnd_t, eX3, bd_t] at cl2
          unfold asK at rl2
          rw [r_w tV h0V (by omega), hw5, bd_t, r_need h0V, cnd_t, bd_t, eV3, bd_t] at rl2
          have fX3' : Fr (SD d) X X3 := fX.tr fX3.d4
          have fV3' : FrW W V3 := fV.tr fV3.w
          rcases nu_read (lo := 0) (hi := 999) tX3 tV3 h03 (by omega) (by omega) with ⟨x, X4, V4, hx0, hx, e69, e281, n4⟩ | ⟨e, v, he1, he5, e69, e281⟩
          · obtain ⟨fX4, fV4, tX4, tV4⟩ := n4
            have h04 : gI V4.1 48 0 31 = nI 0 := (fV4.2.2 31 (by omega)).trans h03
            have f24 := fX3.tr fX4
            have k34 := k3 X4 f24
            obtain ⟨a54, a24⟩ := a5 X4 f24
            rw [e69, bd_t, if_pos k34, c_is tX4 (by omega), bd_t, bI_0] at cl2
            rw [e281, bd_t, nI_add, ck_in (by omega) (by omega), ix_nI (by omega), ix_nI (by omega), wr_t, wr_t] at rl2
            generalize hV5 : sI (sI V4 53 0 (20 + A) (nI x)) 62 0 A (nI 1) = V5 at rl2
            have tV5 : TkM V5 L B (nxt L B (nxt L B (nxt L B (nxt L B s)))) := tV4.cg (by rw [← hV5, gI_sIk (by omega), gI_sIk (by omega)]) (fun y _ _ => by rw [← hV5, gI_sIk (by omega), gI_sIk (by omega)]) (by rw [← hV5]; rfl)
            have o5 : ∀ y, gI V5.1 48 0 y = gI V4.1 48 0 y := fun y => by rw [← hV5, gI_sIk (by omega), gI_sIk (by omega)]
            have h05 : gI V5.1 48 0 31 = nI 0 := (o5 31).trans h04
            have fV5 : FrW W V5 := by rw [← hV5]; exact (fV3'.tr fV4.w).tr ((FrW.sk (by decide)).tr (FrW.sk (by decide)))
            have fX4' : Fr (SD d) X X4 := fX3'.tr fX4.d4
            have hs4 : nxt L B (nxt L B s) ≤ nxt L B (nxt L B (nxt L B s)) := Nat.le_trans edS_ge rn_ge
            have hs5 : nxt L B (nxt L B (nxt L B s)) ≤ nxt L B (nxt L B (nxt L B (nxt L B s))) := Nat.le_trans edS_ge rn_ge
            -- what V5 holds
            have v53 : gI V5.1 53 0 = upd (gI W2.1 53 0) (20 + A) (nI x) := by rw [← hV5, gI_sIk (by omega), gI_sIv, (fV4.2.1 53 0 (by omega)).1, (fV3.2.1 53 0 (by omega)).1, ← hV, gI_sJ]
            have v62 : gI V5.1 62 0 = upd (gI W2.1 62 0) A (nI 1) := by rw [← hV5, gI_sIv, gI_sIk (by omega), (fV4.2.1 62 0 (by omega)).1, (fV3.2.1 62 0 (by omega)).1, ← hV, gI_sJ]
            have v61 : gI V5.1 61 0 = gI W2.1 61 0 := by rw [← hV5, gI_sIk (by omega), gI_sIk (by omega), (fV4.2.1 61 0 (by omega)).1, (fV3.2.1 61 0 (by omega)).1, ← hV, gI_sJ]
            have j5 : ∀ k, k ≠ 48 → gJ V5.1 k 0 = gJ V.1 k 0 := fun k hk => by rw [← hV5, gJ_sI, gJ_sI, (fV4.2.1 k 0 hk).2, (fV3.2.1 k 0 hk).2]
            have v63 : gJ V5.1 63 0 = gJ W2.1 63 0 := by
              rw [j5 63 (by omega), ← hV]
              funext k
              rw [gJ_sJ, if_neg (fun q => absurd q.1 (by decide))]
            have v64 : ∀ k, gJ V5.1 64 0 k = if k = A then nmM L B (nxt L B s) else gJ W2.1 64 0 k := fun k => by
              rw [j5 64 (by omega), ← hV, gJ_sJ]
              by_cases z : k = A
              · rw [if_pos ⟨rfl, rfl, z⟩, if_pos z]
              · rw [if_neg (fun q => z q.2.2), if_neg z]
            have v3x : ∀ y, 31 ≤ y → gI V5.1 48 0 y = gI W2.1 48 0 y := fun y hy => by rw [o5 y, fV4.2.2 y (by omega), fV3.2.2 y (by omega), ← hV, gI_sJ]
            rw [r_w tV5 h05 (by omega), bd_t, bI_0] at rl2
            cases hw6 : wb L B (nxt L B (nxt L B (nxt L B (nxt L B s)))) 6 with
            | false =>
              rw [hw6, cnd_f, c55 X4 _ _ a54 a24, if_pos k34] at cl2
              rw [hw6, cnd_f, nI_add, wr_t] at rl2
              refine ⟨nI 1, _, _, cl2, rl2, fX4'.tr (f55 X4 _ _), fV5.tr (FrW.s48 (by omega)), Or.inl ⟨rfl, nxt L B (nxt L B (nxt L B (nxt L B s))), C, A + 1, n, by omega, ?_⟩⟩
              refine ⟨a24, tX4.cg (by rw [o3 X4 _ _ 1 (by omega) (by omega) (by omega)]) (by rw [o3 X4 _ _ 2 (by omega) (by omega) (by omega)]) (by rw [o3 X4 _ _ 4 (by omega) (by omega) (by omega)]), tV5.cg (by rw [gI_sIk (by omega)]) (fun y h1 h2 => by rw [gI_sIv, upd_ne (by omega)]) rfl, ?_, ?_⟩
              · obtain ⟨e1, e2, e3, e4⟩ := r2.2.2.2.1
                unfold NE
                rw [o3 X4 _ _ 3 (by omega) (by omega) (by omega), f24.gI (by unfold KS; decide), gI_sIv, upd_ne (by omega), upd_ne (by omega), v3x 31 (by omega), v3x 32 (by omega)]
                exact ⟨e1, e2, e3, e4⟩
              · exact Dr.addA (X := X4) (W := W2) (r2.2.2.2.2.cg (SmX.k4 f24) SmW.rf) c (nm_R hnm) hx (by omega) rfl (by rw [gI_sIk (by omega), v53]) (by rw [gI_sIk (by omega), v62]) (by rw [gI_sIk (by omega), v61]) (by rw [gJ_sI, v63]) (fun k => by rw [gJ_sI, v64]) (by rw [gI_sIv, upd_ne (by omega), v3x 33 (by omega)]) (by rw [gI_sIv, upd_ne (by omega), v3x 35 (by omega)]) (by rw [gI_sIv, upd_at])
            | true =>
              obtain ⟨X5, eX5, fX5, tX5⟩ := c_next tX4
              obtain ⟨V6, eV6, fV6, tV6⟩ := r_goOn tV5 h05
              have h06 : gI V6.1 48 0 31 = nI 0 := (fV6.2.2 31 (by omega)).trans h05
              have f25 := f24.tr fX5
              rw [hw6, cnd_t, eX5, bd_t] at cl2
              rw [hw6, cnd_t, eV6, bd_t] at rl2
              rcases nu_read (lo := 1) (hi := 9) tX5 tV6 h06 (by omega) (by omega) with ⟨w, X6, V7, hw1, hw9, e69', e281', n7⟩ | ⟨e, v, he1, he5, e69', e281'⟩
              · obtain ⟨fX6, fV7, tX6, tV7⟩ := n7
                have f26 := f25.tr fX6
                have k36 := k3 X6 f26
                obtain ⟨a56, a26⟩ := a5 X6 f26
                rw [e69', bd_t, c55 X6 _ _ a56 a26, if_pos k36] at cl2
                rw [e281', bd_t, wr_t, nI_add, wr_t] at rl2
                have hs6 : nxt L B (nxt L B (nxt L B (nxt L B s))) ≤ nxt L B (nxt L B (nxt L B (nxt L B (nxt L B s)))) := Nat.le_trans edS_ge rn_ge
                have hs7 : nxt L B (nxt L B (nxt L B (nxt L B (nxt L B s)))) ≤ nxt L B (nxt L B (nxt L B (nxt L B (nxt L B (nxt L B s))))) := Nat.le_trans edS_ge rn_ge
                have g7 : ∀ k, k ≠ 48 → gI V7.1 k 0 = gI V5.1 k 0 ∧ gJ V7.1 k 0 = gJ V5.1 k 0 := fun k hk => ⟨(fV7.2.1 k 0 hk).1.trans (fV6.2.1 k 0 hk).1, (fV7.2.1 k 0 hk).2.trans (fV6.2.1 k 0 hk).2⟩
                have x7 : ∀ y, 31 ≤ y → gI V7.1 48 0 y = gI W2.1 48 0 y := fun y hy => by rw [fV7.2.2 y (by omega), fV6.2.2 y (by omega), v3x y hy]
                refine ⟨nI 1, _, _, cl2, rl2, ((fX4'.tr fX5.d4).tr fX6.d4).tr (f55 X6 _ _), ((fV5.tr fV6.w).tr fV7.w).tr ((FrW.sk (by decide)).tr (FrW.s48 (by omega))), Or.inl ⟨rfl, nxt L B (nxt L B (nxt L B (nxt L B (nxt L B (nxt L B s))))), C, A + 1, n, by omega, ?_⟩⟩
                refine ⟨a26, tX6.cg (by rw [o3 X6 _ _ 1 (by omega) (by omega) (by omega)]) (by rw [o3 X6 _ _ 2 (by omega) (by omega) (by omega)]) (by rw [o3 X6 _ _ 4 (by omega) (by omega) (by omega)]), tV7.cg (by rw [gI_sIk (by omega), gI_sIk (by omega)]) (fun y h1 h2 => by rw [gI_sIv, upd_ne (by omega), gI_sIk (by omega)]) rfl, ?_, ?_⟩
                · obtain ⟨e1, e2, e3, e4⟩ := r2.2.2.2.1
                  unfold NE
                  rw [o3 X6 _ _ 3 (by omega) (by omega) (by omega), f26.gI (by unfold KS; decide), gI_sIv, upd_ne (by omega), upd_ne (by omega), gI_sIk (by omega), x7 31 (by omega), x7 32 (by omega)]
                  exact ⟨e1, e2, e3, e4⟩
                · exact Dr.addA (X := X6) (W := W2) (r2.2.2.2.2.cg (SmX.k4 f26) SmW.rf) c (nm_R hnm) hx ⟨hw1, hw9⟩ rfl (by rw [gI_sIk (by omega), gI_sIk (by omega), (g7 53 (by omega)).1, v53]) (by rw [gI_sIk (by omega), gI_sIv, (g7 62 (by omega)).1, v62, upd_upd]) (by rw [gI_sIk (by omega), gI_sIk (by omega), (g7 61 (by omega)).1, v61]) (by rw [gJ_sI, gJ_sI, (g7 63 (by omega)).2, v63]) (fun k => by rw [gJ_sI, gJ_sI, (g7 64 (by omega)).2, v64]) (by rw [gI_sIv, upd_ne (by omega), gI_sIk (by omega), x7 33 (by omega)]) (by rw [gI_sIv, upd_ne (by omega), gI_sIk (by omega), x7 35 (by omega)]) (by rw [gI_sIv, upd_at])
              · obtain ⟨a55, a25⟩ := a5 X5 f25
                have z : gI (erC X5 (nI e)).1 3 0 3 ≠ nI 0 := by
                  rw [erC_3]
                  exact fun q => by have := (nI_eq (by omega) (by omega)).mp q; omega
                have b5 : gI (erC X5 (nI e)).1 5 d 3 = nI A := by
                  unfold erC
                  rw [gI_sIk (by omega), gI_sIk (by omega)]
                  exact a55
                rw [e69', bd_t, c55 (erC X5 (nI e)) _ _ b5 a25, if_neg z] at cl2
                rw [e281', bd_t, wr_t, nI_add, wr_t] at rl2
                refine ⟨nI 0, _, _, cl2, rl2, Ou.err he1 he5 (((fX4'.tr fX5.d4).tr erC_f).tr (f55 _ _ _)) (((fV5.tr fV6.w).tr erM_f).tr ((FrW.sk (by decide)).tr (FrW.s48 (by omega)))) tX5 tV6 ?_ ?_ ?_ ?_⟩
                · rw [o3 _ _ _ 3 (by omega) (by omega) (by omega), erC_3]
                · rw [o3 _ _ _ 3 (by omega) (by omega) (by omega), erC_4]
                · rw [gI_sIv, upd_ne (by omega), gI_sIk (by omega), erM_31]
                · rw [gI_sIv, upd_ne (by omega), gI_sIk (by omega), erM_32]
          · have nb := erM_ne (W := V3) he1 he5
            obtain ⟨a53, a23⟩ := a5 X3 fX3
            have z : gI (erC X3 (nI e)).1 3 0 3 ≠ nI 0 := by
              rw [erC_3]
              exact fun q => by have := (nI_eq (by omega) (by omega)).mp q; omega
            have b5 : gI (erC X3 (nI e)).1 5 d 3 = nI A := by
              unfold erC
              rw [gI_sIk (by omega), gI_sIk (by omega)]
              exact a53
            rw [e69, bd_t, if_neg z, c55 (erC X3 (nI e)) _ _ b5 a23, if_neg z] at cl2
            rw [e281, bd_t, as_t c nb] at rl2
            refine ⟨nI 0, _, _, cl2, rl2, Ou.err he1 he5 ((fX3'.tr erC_f).tr (f55 _ _ _)) ((fV3'.tr erM_f).tr asE_f) tX3 tV3 ?_ ?_ ?_ ?_⟩
            · rw [o3 _ _ _ 3 (by omega) (by omega) (by omega), erC_3]
            · rw [o3 _ _ _ 3 (by omega) (by omega) (by omega), erC_4]
            · rw [asE_x (by omega), erM_31]
            · rw [asE_x (by omega), erM_32]
      · obtain ⟨v, ev⟩ := ((r_283_64 r1.2.2.1 h01 hA).2 hnm).1 q
        refine ⟨nI 0, _, _, ?_, rerr 3 v (by omega) (by omega) ev, oerr 3 v _ (by omega) (by omega)⟩
        rw [cl2, if_neg q, c_60, bd_t, ck_t (by decide)]
  · have nb := erM_ne (W := W) (e := 4) (by omega) (by omega)
    refine ⟨nI 0, erC X (nI 4), erM W (nI 4), ?_, ?_, Ou.err (by omega) (by omega) erC_f erM_f h.2.1 h.2.2.1 erC_3 erC_4 erM_31 erM_32⟩
    · unfold fn_65
      rw [hd, d2, iteI_lt_f (by omega) (by omega), c_60, bd_t, ck_t (by decide)]
    · have := r_need (W := W) (b := false) (e := 4) h0
      rw [bI_f, cnd_f] at this
      unfold fn_286
      rw [d4, iteI_le_t (by omega) (by omega)]
      unfold fn_286_J15
      rw [this, bd_t, r_goOnb nb, bd_t, r_bad nb, bd_t, if_pos rfl]
