/-! the statement of a class -/
def st3 (L : Nat) (B : Nat → Nat) (s : Nat) : Nat := if wb L B s 1 = true then 1 else if wb L B s 2 = true then 2 else if wb L B s 3 = true then 3 else 0
theorem c_64 {X : Sm} {L s : Nat} {B : Nat → Nat} (h : TkC X L B s) : fn_64 X = if st3 L B s = 0 then some (nI 0, X) else bd (fn_95 X) fun _ Y => some (nI (st3 L B s), Y) := by
  have z : ∀ a b c, wb L B s 1 = a → wb L B s 2 = b → wb L B s 3 = c → st3 L B s = cond a 1 (cond b 2 (cond c 3 0)) := fun a b c h1 h2 h3 => by
    unfold st3
    rw [h1, h2, h3]
    cases a <;> cases b <;> cases c <;> rfl
  unfold fn_64
  rw [c_is h (by omega), bd_t, bI_0, z _ _ _ rfl rfl rfl]
  cases h1 : wb L B s 1 with
  | true =>
    rw [cnd_t, cnd_t, if_neg (by omega)]
    unfold fn_64_J49
    rw [if_neg (by decide)]
  | false =>
    rw [cnd_f, cnd_f, c_is h (by omega), bd_t, bI_0]
    cases h2 : wb L B s 2 with
    | true =>
      rw [cnd_t, cnd_t, if_neg (by omega)]
      unfold fn_64_J49
      rw [if_neg (by decide)]
    | false =>
      rw [cnd_f, cnd_f, c_is h (by omega), bd_t, bI_0]
      cases h3 : wb L B s 3 with
      | true =>
        rw [cnd_t, cnd_t, if_neg (by omega)]
        unfold fn_64_J49
        rw [if_neg (by decide)]
      | false =>
        rw [cnd_f, cnd_f, if_pos rfl]
        unfold fn_64_J49
        rw [if_pos rfl]
theorem st3_le (L : Nat) (B : Nat → Nat) (s : Nat) : st3 L B s ≤ 3 := by
  unfold st3
  by_cases a : wb L B s 1 = true
  · rw [if_pos a]; omega
  · rw [if_neg a]
    by_cases b : wb L B s 2 = true
    · rw [if_pos b]; omega
    · rw [if_neg b]
      by_cases c : wb L B s 3 = true
      · rw [if_pos c]; omega
      · rw [if_neg c]; omega
theorem st3_j {L s j : Nat} {B : Nat → Nat} (hj : j < 17) (h : wb L B s j = true) : st3 L B s = if 1 ≤ j ∧ j ≤ 3 then j else 0 := by
  have hf : ∀ i, i < 17 → i ≠ j → ¬ wb L B s i = true := fun i hi hne q => hne (wb_in hi hj q h)
  unfold st3
  by_cases c1 : j = 1
  · subst c1; rw [if_pos h, if_pos (by omega)]
  · rw [if_neg (hf 1 (by omega) (by omega))]
    by_cases c2 : j = 2
    · subst c2; rw [if_pos h, if_pos (by omega)]
    · rw [if_neg (hf 2 (by omega) (by omega))]
      by_cases c3 : j = 3
      · subst c3; rw [if_pos h, if_pos (by omega)]
      · rw [if_neg (hf 3 (by omega) (by omega)), if_neg (by omega)]
/-- what the reference sees of a word -/
theorem TkM.k1 {W : Sm} {L s : Nat} {B : Nat → Nat} (h : TkM W L B s) : gI W.1 48 0 27 = nI 1 ↔ kdS L B s = 1 := by
  have := krS_lt L B s
  rw [h.2.2.2.2.1]
  exact ⟨fun q => (krS_k (by omega) (by omega)).mp ((nI_eq (by omega) (by omega)).mp q), fun q => by rw [(krS_k (by omega) (by omega)).mpr q]⟩
theorem TkM.wd {W : Sm} {L s : Nat} {B : Nat → Nat} (h : TkM W L B s) (h1 : kdS L B s = 1) : (gI W.1 48 0 28 = (-1 : Int32) ∧ ∀ j, j < 17 → wb L B s j = false) ∨ ∃ j, j < 17 ∧ gI W.1 48 0 28 = nI j ∧ wb L B s j = true := by
  have e := (h.2.2.2.2.2.1 h1).1
  have ew : ∀ j, wb L B s j = isW B s (edS L B s) j := fun j => by unfold wb; rw [h1]; rfl
  rcases wd_c B s (edS L B s) with q | ⟨j, hj, q⟩
  · exact Or.inl ⟨e.trans q, fun j hj => by rw [ew]; exact wd_no.mp q j hj⟩
  · exact Or.inr ⟨j, hj, e.trans q, by rw [ew]; exact (wd_iff hj).mp q⟩
theorem wb_k {L s j : Nat} {B : Nat → Nat} (h : kdS L B s ≠ 1) : wb L B s j = false := by
  unfold wb
  rw [beq_ne h]
  rfl
theorem r_std {W : Sm} {L s : Nat} {B : Nat → Nat} (h : TkM W L B s) {ρ : Type} {x y : Sm → Option ρ} : (if gI W.1 48 0 27 = nI 1 then bd (fn_166 (gI W.1 48 0 28).toInt64 (Int64.ofNat 1) (nI 3).toInt64 W) fun v20 Y18 => (if v20 = nI 0 then x Y18 else y Y18) else x W) = (if st3 L B s = 0 then x W else y W) ∧ (st3 L B s ≠ 0 → gI W.1 48 0 28 = nI (st3 L B s)) := by
  by_cases k1 : kdS L B s = 1
  · rw [if_pos (h.k1.mpr k1), r_isIn, i64_1, bd_t, bI_0]
    rcases h.wd k1 with ⟨e, hn⟩ | ⟨j, hj, e, hw⟩
    · have z : st3 L B s = 0 := by
        unfold st3
        rw [hn 1 (by omega), hn 2 (by omega), hn 3 (by omega), if_neg (by decide), if_neg (by decide), if_neg (by decide)]
      rw [e, rng_m (by omega), cnd_f, if_pos z]
      exact ⟨rfl, fun q => absurd z q⟩
    · have z := st3_j hj hw
      rw [e, rng (by omega) (by omega) (by omega)]
      by_cases c : 1 ≤ j ∧ j ≤ 3
      · rw [if_pos c] at z
        rw [decide_eq_true c, cnd_t, z, if_neg (by omega)]
        exact ⟨rfl, fun _ => rfl⟩
      · rw [if_neg c] at z
        rw [decide_eq_false c, cnd_f, if_pos z]
        exact ⟨rfl, fun q => absurd z q⟩
  · rw [if_neg (fun q => k1 (h.k1.mp q))]
    have z : st3 L B s = 0 := by
      unfold st3
      rw [wb_k k1, wb_k k1, wb_k k1, if_neg (by decide), if_neg (by decide), if_neg (by decide)]
    rw [if_pos z]
    exact ⟨rfl, fun q => absurd z q⟩
theorem SDm {d k : Nat} (h : k ∈ [5, 6, 7, 8, 9, 10, 11, 12, 14, 15, 16, 17, 18, 19]) : SD d k d := Or.inr ⟨rfl, h⟩
theorem Dr.fdK {X W : Sm} {L s d C A n : Nat} {B : Nat → Nat} (h : Dr X W d C A n) (hn : nmb L B s = true) : sres (fun k => decide (gJ X.1 6 d k = nmC L B s)) C = sres (fun k => decide (gJ W.1 63 0 k = nmM L B s)) C :=
  srs_cg (fun k hk => decide_eq_decide.mpr ((h.2.2.1 k hk).1.eq (nm_R hn)))
theorem Dr.fdA {X W : Sm} {L s d C A n : Nat} {B : Nat → Nat} (h : Dr X W d C A n) (hn : nmb L B s = true) : sres (fun k => decide (gJ X.1 8 d k = nmC L B s)) A = sres (fun k => decide (gJ W.1 64 0 k = nmM L B s)) A :=
  srs_cg (fun k hk => decide_eq_decide.mpr ((h.2.2.2.1 k hk).1.eq (nm_R hn)))
theorem TkM.cg {W Z : Sm} {L s : Nat} {B : Nat → Nat} (h : TkM W L B s) (h60 : gI Z.1 60 0 = gI W.1 60 0) (h48 : ∀ x, 24 ≤ x → x ≤ 30 → gI Z.1 48 0 x = gI W.1 48 0 x) (h30 : gJ Z.1 48 0 30 = gJ W.1 48 0 30) : TkM Z L B s := by
  obtain ⟨⟨a1, a2, a3⟩, b, b1, b2, b3, b4, b5⟩ := h
  unfold TkM TxM
  rw [h60, h48 24 (by omega) (by omega), h48 25 (by omega) (by omega), h48 26 (by omega) (by omega), h48 27 (by omega) (by omega), h48 28 (by omega) (by omega), h48 29 (by omega) (by omega), h30]
  exact ⟨⟨a1, a2, a3⟩, b, b1, b2, b3, b4, b5⟩
theorem sI_self {W : Sm} {k j : Nat} {v : Int32} (h : gI W.1 k 0 j = v) : sI W k 0 j v = W := by
  rw [sI_sF, upd_self h, sF_self]
theorem SmW.s33 {W Z : Sm} {x : Nat} {v : Int32} (h : SmW W Z) : SmW (sI W 48 0 x v) (sI Z 48 0 x v) := by
  refine ⟨fun k hk => ⟨?_, (h.1 k hk).2⟩, fun y hy => ?_⟩
  · have : k ≠ 48 := fun q => by rw [q] at hk; exact absurd hk (by decide)
    rw [gI_sIk this, gI_sIk this]
    exact (h.1 k hk).1
  · rw [gI_sIv, gI_sIv]
    by_cases c : y = x
    · rw [c, upd_at, upd_at]
    · rw [upd_ne c, upd_ne c]; exact h.2 y hy
theorem s_class {d L s C A n : Nat} {B : Nat → Nat} {X W : Sm} (h : RdR d L B s C A n X W) (hs : s < L) : ∃ v Z Z2, fn_63 X = some (v, Z) ∧ fn_285 W = some ((), Z2) ∧ Ou d L B s X W v Z Z2 := by
  have hD := h.2.2.2.2
  have hd : X.2 2 = d := h.1
  obtain ⟨⟨hC, hA, hn⟩, ⟨d1, d2, d3, d4⟩, _⟩ := hD
  have h0 := h.2.2.2.1.2.2.1
  by_cases c : C < 5
  · obtain ⟨X1, W1, eX1, eW1, n1⟩ := h.step
    have r1 := h.nx n1
    have hd1 : X1.2 2 = d := r1.1
    obtain ⟨_, ⟨g1, g2, g3, g4⟩, _⟩ := r1.2.2.2.2
    have h01 := r1.2.2.2.1.2.2.1
    have cl : fn_63 X = (bd (fn_98 X1) fun v5 Y3 => (if v5 = (nI 0) then bd (fn_60 (nI 1) Y3) fun v25 Y23 => ck (bz v25) <| some (v25, Y23) else bd (fn_100 Y3) fun v8 Y6 => bd (fn_56 (Y6.2 2) v8 Y6) fun v11 Y9 => (if v11 = (-1 : Int32) then bd (fn_95 Y9) fun _ Y12 => bd (fn_64 Y12) fun v16 Y14 => bd (fn_54 (Y12.2 2) v8 v16 Y14) fun _ Y17 => some ((nI 1), Y17) else bd (fn_60 (nI 3) Y9) fun v21 Y19 => ck (bz v21) <| some (v21, Y19)))) := by
      unfold fn_63
      rw [hd, d1, iteI_lt_t c (by omega), eX1, bd_t]
    have rl : fn_285 W = (bd (fn_283_48_63 (nI C) W1) fun v10 Y8 => ck (inb (nI C) 5) <| wr (sJ Y8 63 0 (ix (nI C)) v10) fun Y12 => bd (fn_276 Y12) fun v15 Y13 => (if v15 = (nI 0) then wr (sI Y13 48 0 33 (nI C + nI 1)) fun Y16 => some ((), Y16) else (if (gI Y13.1 48 0 27) = (nI 1) then bd (fn_166 ((gI Y13.1 48 0 28).toInt64) (Int64.ofNat 1) (((nI 3)).toInt64) Y13) fun v20 Y18 => (if v20 = (nI 0) then wr (sI Y18 48 0 33 (nI C + nI 1)) fun Y21 => some ((), Y21) else ck (inb ((nI 15) + nI C) 718) <| wr (sI Y18 53 0 (ix ((nI 15) + nI C)) (gI Y18.1 48 0 28)) fun Y23 => bd (fn_278 Y23) fun _ Y24 => wr (sI Y24 48 0 33 (nI C + nI 1)) fun Y26 => some ((), Y26)) else wr (sI Y13 48 0 33 (nI C + nI 1)) fun Y17 => some ((), Y17)))) := by
      unfold fn_285
      rw [d3, iteI_le_f (by omega) (by omega)]
      unfold fn_285_J14
      rw [r_needs, bd_t, eW1, bd_t, r_fine h01, bd_t, if_neg (by decide), g3]
    -- an error: the reference goes on to the end
    have rerr : ∀ e v, 1 ≤ e → e ≤ 5 → fn_283_48_63 (nI C) W1 = some (v, erM W1 (nI e)) → fn_285 W = some ((), sI (sJ (erM W1 (nI e)) 63 0 C v) 48 0 33 (nI (C + 1))) := fun e v h1 h5 q => by
      have nb := erM_ne (W := W1) h1 h5
      rw [rl, q, bd_t, ck_in (by omega) (by omega), ix_nI (by omega), wr_t, r_bad (by rw [gI_sJ]; exact nb), bd_t, if_pos rfl, nI_add, wr_t]
    have oerr : ∀ e v, 1 ≤ e → e ≤ 5 → Ou d L B s X W (nI 0) (erC X1 (nI e)) (sI (sJ (erM W1 (nI e)) 63 0 C v) 48 0 33 (nI (C + 1))) := fun e v h1 h5 =>
      ⟨n1.1.d4.tr erC_f, (n1.2.1.w.tr erM_f).tr ((FrW.sj (by decide)).tr (FrW.s48 (by omega))), Or.inr ⟨rfl, ErB.mk h1 h5 r1.2.1 r1.2.2.1 (by rw [gI_sIv, upd_ne (by omega), gI_sJ, erM_31]) (by rw [gI_sIv, upd_ne (by omega), gI_sJ, erM_32])⟩⟩
    cases hnm : nmb L B (nxt L B s) with
    | false =>
      obtain ⟨v, ev⟩ := (r_283_63 r1.2.2.1 h01 hC).1 hnm
      refine ⟨nI 0, _, _, ?_, rerr 1 v (by omega) (by omega) ev, oerr 1 v (by omega) (by omega)⟩
      rw [cl, c_nm r1.2.1, hnm, bd_t, bI_f, if_pos rfl, c_60, bd_t, ck_t (by decide)]
    | true =>
      have fe := r1.2.2.2.2.fdK hnm
      have cl2 : fn_63 X = (if sres (fun k => decide (gJ W1.1 63 0 k = nmM L B (nxt L B s))) C = (-1 : Int32) then bd (fn_95 X1) fun _ Y12 => bd (fn_64 Y12) fun v16 Y14 => bd (fn_54 (Y12.2 2) (nmC L B (nxt L B s)) v16 Y14) fun _ Y17 => some ((nI 1), Y17) else bd (fn_60 (nI 3) X1) fun v21 Y19 => ck (bz v21) <| some (v21, Y19)) := by
        rw [cl, c_nm r1.2.1, hnm, bd_t, bI_t, if_neg (by decide), c_nv r1.2.1 hnm, bd_t, hd1, c_56 _ g1 hC, bd_t, fe]
      by_cases q : sres (fun k => decide (gJ W1.1 63 0 k = nmM L B (nxt L B s))) C = (-1 : Int32)
      · obtain ⟨W2, eW2, fW2, tW2⟩ := ((r_283_63 r1.2.2.1 h01 hC).2 hnm).2 q
        obtain ⟨X2, eX2, fX2, tX2⟩ := c_next r1.2.1
        have n2 : Nxt L B (nxt L B s) X1 W1 X2 W2 := ⟨fX2, fW2, tX2, tW2⟩
        have r2 := r1.nx n2
        have hd2 : X2.2 2 = d := r2.1
        have hD2 := r2.2.2.2.2
        obtain ⟨_, ⟨p1, p2, p3, p4⟩, hK2, hA2, hS2, hQ2, hZ2, hT2, hM2⟩ := hD2
        have s2L : s < nxt L B s := nxt_gt hs
        have s3 : nxt L B s ≤ nxt L B (nxt L B s) := Nat.le_trans edS_ge rn_ge
        generalize hst : st3 L B (nxt L B (nxt L B s)) = x
        have x3 := st3_le L B (nxt L B (nxt L B s))
        rw [hst] at x3
        have c54 : ∀ Y, gI Y.1 5 d 0 = nI C → fn_54 d (nmC L B (nxt L B s)) (nI x) Y = some ((), sI (sI (sJ Y 6 d C (nmC L B (nxt L B s))) 7 d C (nI x)) 5 d 0 (nI (C + 1))) := fun Y e => by
          unfold fn_54
          rw [e, iteI_le_f (by omega) (by omega), ck_in (by omega) (by omega), ix_nI (by omega), wr_t, gI_sJ, e, ck_in (by omega) (by omega), ix_nI (by omega), wr_t, gI_sIk (by omega), gI_sJ, e, wr_t, nI_add]
        have tW3 : TkM (sJ W2 63 0 C (nmM L B (nxt L B s))) L B (nxt L B (nxt L B s)) := by
          obtain ⟨a1, a2, a3, a4, a5, a6, a7⟩ := tW2
          exact ⟨a1, a2, a3, a4, a5, fun k => ⟨(a6 k).1, by rw [gJ_sJ, if_neg (fun q => absurd q.1 (by decide))]; exact (a6 k).2⟩, a7⟩
        obtain ⟨rs1, rs2⟩ := r_std tW3 (x := fun Y18 => wr (sI Y18 48 0 33 (nI C + nI 1)) fun Y21 => some ((), Y21)) (y := fun Y18 => ck (inb ((nI 15) + nI C) 718) <| wr (sI Y18 53 0 (ix ((nI 15) + nI C)) (gI Y18.1 48 0 28)) fun Y23 => bd (fn_278 Y23) fun _ Y24 => wr (sI Y24 48 0 33 (nI C + nI 1)) fun Y26 => some ((), Y26))
        have h02 : gI W2.1 48 0 31 = nI 0 := r2.2.2.2.1.2.2.1
        have rl2 : fn_285 W = if x = 0 then (wr (sI (sJ W2 63 0 C (nmM L B (nxt L B s))) 48 0 33 (nI C + nI 1)) fun Y21 => some ((), Y21)) else (ck (inb ((nI 15) + nI C) 718) <| wr (sI (sJ W2 63 0 C (nmM L B (nxt L B s))) 53 0 (ix ((nI 15) + nI C)) (gI (sJ W2 63 0 C (nmM L B (nxt L B s))).1 48 0 28)) fun Y23 => bd (fn_278 Y23) fun _ Y24 => wr (sI Y24 48 0 33 (nI C + nI 1)) fun Y26 => some ((), Y26)) := by
          rw [hst] at rs1
          rw [rl, eW2, bd_t, ck_in (by omega) (by omega), ix_nI (by omega), wr_t, r_fine (by rw [gI_sJ]; exact h02), bd_t, if_neg (by decide)]
          exact rs1
        have cl3 : fn_63 X = bd (fn_64 X2) fun v16 Y14 => bd (fn_54 d (nmC L B (nxt L B s)) v16 Y14) fun _ Y17 => some ((nI 1), Y17) := by
          rw [cl2, if_pos q, eX2, bd_t, hd2]
        have fX : Fr (SD d) X X2 := n1.1.d4.tr fX2.d4
        have fW : FrW W W2 := n1.2.1.w.tr fW2.w
        have m6 : SD d 6 d := SDm (by decide)
        have m7 : SD d 7 d := SDm (by decide)
        have m5 : SD d 5 d := SDm (by decide)
        by_cases z : x = 0
        · subst z
          refine ⟨nI 1, sI (sI (sJ X2 6 d C (nmC L B (nxt L B s))) 7 d C (nI 0)) 5 d 0 (nI (C + 1)), sI (sJ W2 63 0 C (nmM L B (nxt L B s))) 48 0 33 (nI (C + 1)), ?_, ?_, fX.tr (((Fr.sJ m6).tr (Fr.sI m7)).tr (Fr.sI m5)), fW.tr ((FrW.sj (by decide)).tr (FrW.s48 (by omega))), Or.inl ⟨rfl, nxt L B (nxt L B s), C + 1, A, n, by omega, ?_⟩⟩
          · rw [cl3, c_64 r2.2.1, if_pos hst, bd_t, c54 X2 p1, bd_t]
          · rw [rl2, if_pos rfl, wr_t, nI_add]
          · have ez : gI (sJ W2 63 0 C (nmM L B (nxt L B s))).1 53 0 (15 + C) = nI 0 := by rw [gI_sJ]; exact hZ2.2.2.2.2 C (Nat.le_refl _) c
            have hD3 := Dr.addK r2.2.2.2.2 c (nm_R hnm) (show 0 ≤ 3 by omega)
            rw [sI_self ez] at hD3
            refine ⟨hd2, r2.2.1.cg ?_ ?_ ?_, tW3.cg ?_ (fun y h1 h2 => ?_) rfl, ?_, hD3⟩
            · rw [gI_sIk (by omega), gI_sIk (by omega), gI_sJ]
            · rw [gI_sIk (by omega), gI_sIk (by omega), gI_sJ]
            · rw [gI_sIk (by omega), gI_sIk (by omega), gI_sJ]
            · rw [gI_sIk (by omega)]
            · rw [gI_sIv, upd_ne (by omega)]
            · obtain ⟨e1, e2, e3, e4⟩ := r2.2.2.2.1
              unfold NE
              rw [gI_sIk (by omega), gI_sIk (by omega), gI_sJ, gI_sIv, upd_ne (by omega), upd_ne (by omega), gI_sJ]
              exact ⟨e1, e2, e3, e4⟩
        · have e28 : gI (sJ W2 63 0 C (nmM L B (nxt L B s))).1 48 0 28 = nI x := by rw [rs2 (by rw [hst]; exact z), hst]
          have tW4 : TkM (sI (sJ W2 63 0 C (nmM L B (nxt L B s))) 53 0 (15 + C) (nI x)) L B (nxt L B (nxt L B s)) := tW3.cg (by rw [gI_sIk (by omega)]) (fun y _ _ => by rw [gI_sIk (by omega)]) rfl
          have h04 : gI (sI (sJ W2 63 0 C (nmM L B (nxt L B s))) 53 0 (15 + C) (nI x)).1 48 0 31 = nI 0 := by rw [gI_sIk (by omega)]; exact h02
          obtain ⟨W5, eW5, fW5, tW5⟩ := r_goOn tW4 h04
          obtain ⟨X3, eX3, fX3, tX3⟩ := c_next r2.2.1
          have hd3 : X3.2 2 = d := by rw [fX3.1]; exact hd2
          have p13 : gI X3.1 5 d 0 = nI C := by rw [fX3.gI (by unfold KS; decide)]; exact p1
          have s4 : nxt L B (nxt L B s) ≤ nxt L B (nxt L B (nxt L B s)) := Nat.le_trans edS_ge rn_ge
          refine ⟨nI 1, sI (sI (sJ X3 6 d C (nmC L B (nxt L B s))) 7 d C (nI x)) 5 d 0 (nI (C + 1)), sI W5 48 0 33 (nI (C + 1)), ?_, ?_, (fX.tr fX3.d4).tr (((Fr.sJ m6).tr (Fr.sI m7)).tr (Fr.sI m5)), (fW.tr ((FrW.sj (by decide)).tr (FrW.sk (by decide)))).tr (fW5.w.tr (FrW.s48 (by omega))), Or.inl ⟨rfl, nxt L B (nxt L B (nxt L B s)), C + 1, A, n, by omega, ?_⟩⟩
          · rw [cl3, c_64 r2.2.1, if_neg (by rw [hst]; exact z), eX3, bd_t, bd_t, hst, c54 X3 p13, bd_t]
          · rw [rl2, if_neg z, nI_add, ck_in (by omega) (by omega), ix_nI (by omega), e28, wr_t, eW5, bd_t, wr_t, nI_add]
          · have hD3 := (Dr.addK (r2.2.2.2.2.cg (SmX.k4 fX3) SmW.rf) c (nm_R hnm) x3).cg SmX.rf (SmW.s33 (SmW.t fW5))
            refine ⟨hd3, tX3.cg ?_ ?_ ?_, tW5.cg ?_ (fun y h1 h2 => ?_) rfl, ?_, hD3⟩
            · rw [gI_sIk (by omega), gI_sIk (by omega), gI_sJ]
            · rw [gI_sIk (by omega), gI_sIk (by omega), gI_sJ]
            · rw [gI_sIk (by omega), gI_sIk (by omega), gI_sJ]
            · rw [gI_sIk (by omega)]
            · rw [gI_sIv, upd_ne (by omega)]
            · obtain ⟨e1, e2, e3, e4⟩ := r2.2.2.2.1
              unfold NE
              rw [gI_sIk (by omega), gI_sIk (by omega), gI_sJ, fX3.gI (by unfold KS; decide), gI_sIv, upd_ne (by omega), upd_ne (by omega), fW5.2.2 31 (by omega), fW5.2.2 32 (by omega), gI_sIk (by omega), gI_sJ]
              exact ⟨e1, e2, e3, e4⟩
      · obtain ⟨v, ev⟩ := ((r_283_63 r1.2.2.1 h01 hC).2 hnm).1 q
        refine ⟨nI 0, _, _, ?_, rerr 3 v (by omega) (by omega) ev, oerr 3 v (by omega) (by omega)⟩
        rw [cl2, if_neg q, c_60, bd_t, ck_t (by decide)]
  · have nb := erM_ne (W := W) (e := 4) (by omega) (by omega)
    refine ⟨nI 0, erC X (nI 4), erM W (nI 4), ?_, ?_, erC_f, erM_f, Or.inr ⟨rfl, ErB.mk (by omega) (by omega) h.2.1 h.2.2.1 erM_31 erM_32⟩⟩
    · unfold fn_63
      rw [hd, d1, iteI_lt_f (by omega) (by omega), c_60, bd_t, ck_t (by decide)]
    · have := r_need (W := W) (b := false) (e := 4) h0
      rw [bI_f, cnd_f] at this
      unfold fn_285
      rw [d3, iteI_le_t (by omega) (by omega)]
      unfold fn_285_J14
      rw [this, bd_t, r_goOnb nb, bd_t, r_bad nb, bd_t, if_pos rfl]
