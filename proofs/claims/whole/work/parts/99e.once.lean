/-! tally and settings: each once -/
theorem mk_s : ∀ m, m < 64 → ∀ j, j < 5 → decide ((nI m &&& (nI 1 <<< (nI j &&& 31))) = nI 0) = !(hasS (nI ((m % 32) * 2 + m / 32)) (nI (j + 1))) := by decide +kernel
theorem mk_s2 : ∀ m, m < 64 → ∀ j, j < 5 → ((nI m &&& (nI 1 <<< (nI j &&& 31))) = nI 0) → m + 2 ^ j < 64 ∧ (nI m ||| (nI 1 <<< (nI j &&& 31))) = nI (m + 2 ^ j) ∧ (nI ((m % 32) * 2 + m / 32) ||| (nI 1 <<< (nI (j + 1) &&& 31))) = nI (((m + 2 ^ j) % 32) * 2 + (m + 2 ^ j) / 32) := by decide +kernel
theorem mk_t : ∀ m, m < 64 → decide ((nI m &&& nI 32) = nI 0) = !(hasS (nI ((m % 32) * 2 + m / 32)) (nI 0)) := by decide +kernel
theorem mk_t2 : ∀ m, m < 64 → ((nI m &&& nI 32) = nI 0) → m + 32 < 64 ∧ (nI m ||| nI 32) = nI (m + 32) ∧ (nI ((m % 32) * 2 + m / 32) ||| (nI 1 <<< (nI 0 &&& 31))) = nI (((m + 32) % 32) * 2 + (m + 32) / 32) := by decide +kernel
theorem RdR.mask {d L s C A n m : Nat} {B : Nat → Nat} {X W : Sm} (h : RdR d L B s C A n X W) (hm : m < 64) : RdR d L B s C A n (sI X 3 0 2 (nI m)) (sI W 48 0 35 (nI ((m % 32) * 2 + m / 32))) := by
  obtain ⟨h1, h2, h3, h4, h5⟩ := h
  refine ⟨h1, h2.cg (by rw [gI_sIk (by omega)]) (by rw [gI_sIk (by omega)]) (by rw [gI_sIk (by omega)]), h3.cg (by rw [gI_sIk (by omega)]) (fun y h1 h2 => by rw [gI_sIv, upd_ne (by omega)]) rfl, ?_, ?_⟩
  · unfold NE
    rw [gI_sIv, upd_ne (by omega), upd_ne (by omega), gI_sIv, upd_ne (by omega), upd_ne (by omega)]
    exact h4
  · obtain ⟨h0, ⟨a1, a2, a3, a4⟩, hK, hA, hS, hQ, hZ, hT, hM⟩ := h5
    have xo : ∀ k, k ≠ 3 → gI (sI X 3 0 2 (nI m)).1 k = gI X.1 k := fun k hk => by rw [gI_sIk hk]
    have wo : ∀ k, k ≠ 48 → gI (sI W 48 0 35 (nI ((m % 32) * 2 + m / 32))).1 k = gI W.1 k := fun k hk => by rw [gI_sIk hk]
    refine ⟨h0, ⟨by rw [xo 5 (by omega)]; exact a1, by rw [xo 5 (by omega)]; exact a2, by rw [gI_sIv, upd_ne (by omega)]; exact a3, by rw [gI_sIv, upd_ne (by omega)]; exact a4⟩, fun k hk => ?_, fun a ha => ?_, fun j hj => ?_, ?_, ?_, ?_, ?_⟩
    · rw [gJ_sI, gJ_sI, xo 7 (by omega), wo 53 (by omega)]
      exact hK k hk
    · rw [gJ_sI, gJ_sI, xo 9 (by omega), xo 10 (by omega), wo 53 (by omega), wo 62 (by omega)]
      exact hA a ha
    · rw [xo 11 (by omega), wo 61 (by omega)]
      exact hS j hj
    · unfold DrQ
      rw [xo 12 (by omega), xo 19 (by omega), xo 14 (by omega), xo 15 (by omega), xo 16 (by omega), xo 17 (by omega), xo 18 (by omega), wo 53 (by omega)]
      exact hQ
    · unfold DrZ
      rw [wo 53 (by omega)]
      exact hZ
    · unfold DrT
      rw [xo 5 (by omega), wo 53 (by omega)]
      exact hT
    · exact ⟨m, hm, by rw [gI_sIv, upd_at], by rw [gI_sIv, upd_at]⟩
theorem Dr.setS {X W : Sm} {d C A n j x : Nat} (h : Dr X W d C A n) (hj : j < 5) (h1 : stL j ≤ x) (h2 : x ≤ stH j) : Dr (sI X 11 d j (nI x)) (sI W 61 0 j (nI x)) d C A n := by
  obtain ⟨h0, ⟨a1, a2, a3, a4⟩, hK, hA, hS, hQ, hZ, hT, hM⟩ := h
  have xo : ∀ k, k ≠ 11 → gI (sI X 11 d j (nI x)).1 k = gI X.1 k := fun k hk => by rw [gI_sIk hk]
  have wo : ∀ k, k ≠ 61 → gI (sI W 61 0 j (nI x)).1 k = gI W.1 k := fun k hk => by rw [gI_sIk hk]
  refine ⟨h0, ⟨by rw [xo 5 (by omega)]; exact a1, by rw [xo 5 (by omega)]; exact a2, by rw [wo 48 (by omega)]; exact a3, by rw [wo 48 (by omega)]; exact a4⟩, fun k hk => ?_, fun a ha => ?_, fun i hi => ?_, ?_, ?_, ?_, ?_⟩
  · rw [gJ_sI, gJ_sI, xo 7 (by omega), wo 53 (by omega)]
    exact hK k hk
  · rw [gJ_sI, gJ_sI, xo 9 (by omega), xo 10 (by omega), wo 53 (by omega), wo 62 (by omega)]
    exact hA a ha
  · rw [gI_sIv, gI_sIv]
    by_cases c : i = j
    · rw [c, upd_at, upd_at]
      exact ⟨x, h1, h2, rfl, rfl⟩
    · rw [upd_ne c, upd_ne c]
      exact hS i hi
  · unfold DrQ
    rw [xo 12 (by omega), xo 19 (by omega), xo 14 (by omega), xo 15 (by omega), xo 16 (by omega), xo 17 (by omega), xo 18 (by omega), wo 53 (by omega)]
    exact hQ
  · unfold DrZ
    rw [wo 53 (by omega)]
    exact hZ
  · unfold DrT
    rw [xo 5 (by omega), wo 53 (by omega)]
    exact hT
  · unfold Mk
    rw [xo 3 (by omega), wo 48 (by omega)]
    exact hM
theorem Dr.setT {X W : Sm} {d C A n x : Nat} (h : Dr X W d C A n) (hx : x < 3) : Dr (sI X 5 d 7 (nI x)) (sI W 53 0 1 (nI x)) d C A n := by
  obtain ⟨h0, ⟨a1, a2, a3, a4⟩, hK, hA, hS, hQ, hZ, hT, hM⟩ := h
  have xo : ∀ k, k ≠ 5 → gI (sI X 5 d 7 (nI x)).1 k = gI X.1 k := fun k hk => by rw [gI_sIk hk]
  have wo : ∀ k, k ≠ 53 → gI (sI W 53 0 1 (nI x)).1 k = gI W.1 k := fun k hk => by rw [gI_sIk hk]
  have w53 : gI (sI W 53 0 1 (nI x)).1 53 0 = upd (gI W.1 53 0) 1 (nI x) := gI_sIv
  refine ⟨h0, ⟨by rw [gI_sIv, upd_ne (by omega)]; exact a1, by rw [gI_sIv, upd_ne (by omega)]; exact a2, by rw [wo 48 (by omega)]; exact a3, by rw [wo 48 (by omega)]; exact a4⟩, fun k hk => ?_, fun a ha => ?_, fun i hi => ?_, ?_, ?_, ?_, ?_⟩
  · rw [gJ_sI, gJ_sI, xo 7 (by omega), w53, upd_ne (by omega)]
    exact hK k hk
  · rw [gJ_sI, gJ_sI, xo 9 (by omega), xo 10 (by omega), w53, upd_ne (by omega), wo 62 (by omega)]
    exact hA a ha
  · rw [xo 11 (by omega), wo 61 (by omega)]
    exact hS i hi
  · obtain ⟨q1, q2⟩ := hQ
    unfold DrQ
    rw [xo 12 (by omega), xo 19 (by omega), xo 14 (by omega), xo 15 (by omega), xo 16 (by omega), xo 17 (by omega), xo 18 (by omega), w53]
    refine ⟨by rw [upd_ne (by omega), upd_ne (by omega)]; exact q1, fun j hj => ?_⟩
    rw [upd_ne (by omega), upd_ne (by omega), upd_ne (by omega), upd_ne (by omega), upd_ne (by omega)]
    exact q2 j hj
  · obtain ⟨z1, z2, z3, z4, z5⟩ := hZ
    unfold DrZ
    rw [w53]
    refine ⟨fun q hq => ?_, by rw [upd_ne (by omega)]; exact z2, fun q h1 h2 => by rw [upd_ne (by omega)]; exact z3 q h1 h2, fun j hj => by rw [upd_ne (by omega)]; exact z4 j hj, fun k h1 h2 => by rw [upd_ne (by omega)]; exact z5 k h1 h2⟩
    rw [upd_ne (by
      simp only [List.mem_cons, List.mem_nil_iff, or_false] at hq
      omega)]
    exact z1 q hq
  · exact ⟨x, hx, by rw [gI_sIv, upd_at], by rw [w53, upd_at]⟩
  · unfold Mk
    rw [xo 3 (by omega), wo 48 (by omega)]
    exact hM
/-- a setting -/
theorem r_288 {W Z V : Sm} {j : Nat} {x : Int32} (hj : j < 5) (e1 : fn_278 W = some ((), Z)) (e2 : fn_281 (nI (stL j)) (nI (stH j)) Z = some (x, V)) : fn_288 (nI j) W = some ((), sI V 61 0 j x) := by
  have k : fn_288_J55 (nI j) (nI (stL j)) (nI (stH j)) Z = some ((), sI V 61 0 j x) := by
    unfold fn_288_J55
    rw [e2, bd_t, ck_in hj (by omega), ix_nI (by omega), wr_t]
  have hj' : j = 0 ∨ j = 1 ∨ j = 2 ∨ j = 3 ∨ j = 4 := by omega
  unfold fn_288
  rw [e1, bd_t]
  rcases hj' with rfl | rfl | rfl | rfl | rfl
  · rw [if_pos rfl]
    unfold fn_288_J18 fn_288_J23
    rw [if_pos rfl]
    exact k
  · rw [if_neg (by decide), if_pos rfl]
    unfold fn_288_J18 fn_288_J23
    rw [if_neg (by decide), if_pos rfl]
    exact k
  · rw [if_neg (by decide), if_neg (by decide), if_neg (by decide)]
    unfold fn_288_J23
    rw [if_neg (by decide), if_neg (by decide), if_neg (by decide)]
    exact k
  · rw [if_neg (by decide), if_neg (by decide), if_neg (by decide)]
    unfold fn_288_J23
    rw [if_neg (by decide), if_neg (by decide), if_neg (by decide)]
    exact k
  · rw [if_neg (by decide), if_neg (by decide), if_pos rfl]
    unfold fn_288_J18 fn_288_J23
    rw [if_neg (by decide), if_neg (by decide), if_pos rfl]
    exact k
theorem r_289s {W : Sm} {j : Nat} (hj : j < 5) : fn_289_J17 (nI (j + 1)) (nI 1) W = (wr (sI W 48 0 35 ((gI W.1 48 0 35) ||| ((nI 1) <<< (nI (j + 1) &&& 31)))) fun Y6 => bd (fn_276 Y6) fun v9 Y7 => (if v9 = (nI 0) then some ((), Y7) else bd (fn_288 (nI j) Y7) fun _ Y => some ((), Y))) := by
  have hj' : j = 0 ∨ j = 1 ∨ j = 2 ∨ j = 3 ∨ j = 4 := by omega
  unfold fn_289_J17
  rw [r_needs, bd_t]
  rcases hj' with rfl | rfl | rfl | rfl | rfl <;> rfl
theorem r_289b {W : Sm} {l : Int32} (h0 : gI W.1 48 0 31 = nI 0) : fn_289_J17 l (nI 0) W = some ((), sI (erM W (nI 3)) 48 0 35 ((gI (erM W (nI 3)).1 48 0 35) ||| ((nI 1) <<< (l &&& 31)))) := by
  have nb := erM_ne (W := W) (e := 3) (by omega) (by omega)
  have := r_need (W := W) (b := false) (e := 3) h0
  rw [bI_f, cnd_f] at this
  unfold fn_289_J17
  rw [this, bd_t, wr_t, r_bad (by rw [gI_sIv, upd_ne (by omega)]; exact nb), bd_t, if_pos rfl]
theorem s_set {d L s C A n j : Nat} {B : Nat → Nat} {X W : Sm} (h : RdR d L B s C A n X W) (hs : s < L) (hj : j < 5) : ∃ v Z Z2, fn_68 (nI j) (nI (stL j)) (nI (stH j)) X = some (v, Z) ∧ fn_289 (nI (j + 1)) W = some ((), Z2) ∧ Ou d L B s X W v Z Z2 := by
  obtain ⟨m, hm, m1, m2⟩ := h.2.2.2.2.2.2.2.2.2.2.2.2
  have h0 := h.2.2.2.1.2.2.1
  have hb := mk_s m hm j hj
  have m3 : SD d 3 0 := Or.inl (by decide)
  unfold fn_68 fn_289
  rw [m1, m2, r_has, bd_t, bI_0]
  cases hh : hasS (nI ((m % 32) * 2 + m / 32)) (nI (j + 1)) with
  | true =>
    rw [hh] at hb
    rw [cnd_t, if_neg (of_decide_eq_false hb), c_60, bd_t, ck_t (by decide), r_289b h0]
    exact ⟨nI 0, _, _, rfl, rfl, Ou.err (e := 3) (by omega) (by omega) erC_f (erM_f.tr (FrW.s48 (by omega))) h.2.1 h.2.2.1 erC_3 erC_4 (by rw [gI_sIv, upd_ne (by omega), erM_31]) (by rw [gI_sIv, upd_ne (by omega), erM_32])⟩
  | false =>
    rw [hh] at hb
    have hz := of_decide_eq_true hb
    obtain ⟨q1, q2, q3⟩ := mk_s2 m hm j hj hz
    rw [cnd_f, if_pos hz, q2, wr_t, r_289s hj, m2, q3, wr_t]
    have h' := h.mask q1
    have f0 : Fr (SD d) X (sI X 3 0 2 (nI (m + 2 ^ j))) := Fr.sI m3
    have g0 : FrW W (sI W 48 0 35 (nI (((m + 2 ^ j) % 32) * 2 + (m + 2 ^ j) / 32))) := FrW.s48 (by omega)
    generalize sI X 3 0 2 (nI (m + 2 ^ j)) = X0 at h' f0 ⊢
    generalize sI W 48 0 35 (nI (((m + 2 ^ j) % 32) * 2 + (m + 2 ^ j) / 32)) = W0 at h' g0 ⊢
    have h00 := h'.2.2.2.1.2.2.1
    obtain ⟨X1, W1, eX1, eW1, n1⟩ := h'.step
    have r1 := h'.nx n1
    have hd1 : X1.2 2 = d := r1.1
    have h01 := r1.2.2.2.1.2.2.1
    have s5 : stH j < 1000 ∧ stL j < 1000 := (by decide : ∀ j, j < 5 → stH j < 1000 ∧ stL j < 1000) j hj
    rw [eX1, bd_t, r_fine h00, bd_t, if_neg (by decide)]
    rcases nu_read (lo := stL j) (hi := stH j) r1.2.1 r1.2.2.1 h01 s5.1 s5.2 with ⟨x, X2, W2, hx1, hx2, e69, e281, n2⟩ | ⟨e, v, he1, he5, e69, e281⟩
    · have r2 := r1.nx n2
      have hd2 : X2.2 2 = d := r2.1
      have k3 : gI X2.1 3 0 3 = nI 0 := r2.2.2.2.1.1
      have k3' : gI (sI X2 11 d j (nI x)).1 3 0 3 = nI 0 := by rw [gI_sIk (by omega)]; exact k3
      rw [e69, bd_t, if_pos k3, if_neg (p_nlt (by omega)), iteI_le_f hj (by omega), ck_in hj (by omega), ix_nI (by omega), hd2, wr_t, if_pos k3', r_288 hj eW1 e281, bd_t]
      refine ⟨nI 1, _, _, rfl, rfl, ((f0.tr n1.1.d4).tr n2.1.d4).tr (Fr.sI (SDm (by decide))), ((g0.tr n1.2.1.w).tr n2.2.1.w).tr (FrW.sk (by decide)), Or.inl ⟨rfl, nxt L B (nxt L B s), C, A, n, ?_, hd2, r2.2.1.cg (by rw [gI_sIk (by omega)]) (by rw [gI_sIk (by omega)]) (by rw [gI_sIk (by omega)]), r2.2.2.1.cg (by rw [gI_sIk (by omega)]) (fun y _ _ => by rw [gI_sIk (by omega)]) rfl, ?_, Dr.setS r2.2.2.2.2 hj hx1 hx2⟩⟩
      · have : s < nxt L B s := nxt_gt hs
        have : nxt L B s ≤ nxt L B (nxt L B s) := Nat.le_trans edS_ge rn_ge
        omega
      · unfold NE
        rw [gI_sIk (by omega), gI_sIk (by omega)]
        exact r2.2.2.2.1
    · have z : gI (erC X1 (nI e)).1 3 0 3 ≠ nI 0 := by
        rw [erC_3]
        exact fun q => by have := (nI_eq (by omega) (by omega)).mp q; omega
      rw [e69, bd_t, if_neg z, if_neg z, r_288 hj eW1 e281, bd_t]
      exact ⟨nI 0, _, _, rfl, rfl, Ou.err he1 he5 ((f0.tr n1.1.d4).tr erC_f) (((g0.tr n1.2.1.w).tr erM_f).tr (FrW.sk (by decide))) r1.2.1 r1.2.2.1 erC_3 erC_4 (by rw [gI_sIk (by omega), erM_31]) (by rw [gI_sIk (by omega), erM_32])⟩
/-- the tally's word -/
def tl3 (L : Nat) (B : Nat → Nat) (s : Nat) : Nat := if wb L B s 8 = true then 0 else if wb L B s 9 = true then 1 else if wb L B s 10 = true then 2 else 3
theorem tl3_z {L s : Nat} {B : Nat → Nat} (h : ∀ j, j < 17 → wb L B s j = false) : tl3 L B s = 3 := by
  unfold tl3
  rw [h 8 (by omega), h 9 (by omega), h 10 (by omega), if_neg (by decide), if_neg (by decide), if_neg (by decide)]
theorem tl3_j {L s j : Nat} {B : Nat → Nat} (hj : j < 17) (h : wb L B s j = true) : tl3 L B s = if 8 ≤ j ∧ j ≤ 10 then j - 8 else 3 := by
  have hf : ∀ i, i < 17 → i ≠ j → ¬ wb L B s i = true := fun i hi hne q => hne (wb_in hi hj q h)
  unfold tl3
  by_cases c1 : j = 8
  · subst c1; rw [if_pos h, if_pos (by omega)]
  · rw [if_neg (hf 8 (by omega) (by omega))]
    by_cases c2 : j = 9
    · subst c2; rw [if_pos h, if_pos (by omega)]
    · rw [if_neg (hf 9 (by omega) (by omega))]
      by_cases c3 : j = 10
      · subst c3; rw [if_pos h, if_pos (by omega)]
      · rw [if_neg (hf 10 (by omega) (by omega)), if_neg (by omega)]
theorem r_tal {W : Sm} {L s : Nat} {B : Nat → Nat} (h : TkM W L B s) {ρ : Type} {x y : Sm → Option ρ} : (if gI W.1 48 0 27 = nI 1 then bd (fn_166 (gI W.1 48 0 28).toInt64 (nI 8).toInt64 (nI 10).toInt64 W) fun v20 Y18 => (if v20 = nI 0 then x Y18 else y Y18) else x W) = (if tl3 L B s = 3 then x W else y W) ∧ (tl3 L B s ≠ 3 → tl3 L B s < 3 ∧ gI W.1 48 0 28 - nI 8 = nI (tl3 L B s)) := by
  by_cases k1 : kdS L B s = 1
  · rw [if_pos (h.k1.mpr k1), r_isIn, bd_t, bI_0]
    rcases h.wd k1 with ⟨e, hn⟩ | ⟨j, hj, e, hw⟩
    · have z := tl3_z hn
      rw [e, rng_m (by omega), cnd_f, if_pos z]
      exact ⟨rfl, fun q => absurd z q⟩
    · have z := tl3_j hj hw
      rw [e, rng (by omega) (by omega) (by omega)]
      by_cases c : 8 ≤ j ∧ j ≤ 10
      · rw [if_pos c] at z
        rw [decide_eq_true c, cnd_t, z, if_neg (by omega), pk_sub c.1]
        exact ⟨rfl, fun _ => ⟨by omega, rfl⟩⟩
      · rw [if_neg c] at z
        rw [decide_eq_false c, cnd_f, if_pos z]
        exact ⟨rfl, fun q => absurd z q⟩
  · rw [if_neg (fun q => k1 (h.k1.mp q))]
    have z : tl3 L B s = 3 := tl3_z (fun j _ => wb_k k1)
    rw [if_pos z]
    exact ⟨rfl, fun q => absurd z q⟩
theorem s_tally {d L s C A n : Nat} {B : Nat → Nat} {X W : Sm} (h : RdR d L B s C A n X W) (hs : s < L) : ∃ v Z Z2, fn_67 X = some (v, Z) ∧ fn_289 (nI 0) W = some ((), Z2) ∧ Ou d L B s X W v Z Z2 := by
  obtain ⟨m, hm, m1, m2⟩ := h.2.2.2.2.2.2.2.2.2.2.2.2
  have h0 := h.2.2.2.1.2.2.1
  have hb := mk_t m hm
  have m3 : SD d 3 0 := Or.inl (by decide)
  unfold fn_67 fn_289
  rw [m1, m2, r_has, bd_t, bI_0]
  cases hh : hasS (nI ((m % 32) * 2 + m / 32)) (nI 0) with
  | true =>
    rw [hh] at hb
    rw [cnd_t, if_neg (of_decide_eq_false hb), c_60, bd_t, ck_t (by decide), r_289b h0]
    exact ⟨nI 0, _, _, rfl, rfl, Ou.err (e := 3) (by omega) (by omega) erC_f (erM_f.tr (FrW.s48 (by omega))) h.2.1 h.2.2.1 erC_3 erC_4 (by rw [gI_sIv, upd_ne (by omega), erM_31]) (by rw [gI_sIv, upd_ne (by omega), erM_32])⟩
  | false =>
    rw [hh] at hb
    have hz := of_decide_eq_true hb
    obtain ⟨q1, q2, q3⟩ := mk_t2 m hm hz
    have e289 : fn_289_J17 (nI 0) (nI 1) W = (wr (sI W 48 0 35 ((gI W.1 48 0 35) ||| ((nI 1) <<< (nI 0 &&& 31)))) fun Y6 => bd (fn_276 Y6) fun v9 Y7 => (if v9 = (nI 0) then some ((), Y7) else bd (fn_287 Y7) fun _ Y => some ((), Y))) := by
      unfold fn_289_J17
      rw [r_needs, bd_t]
      rfl
    rw [cnd_f, if_pos hz, q2, wr_t, e289, m2, q3, wr_t]
    have h' := h.mask q1
    have f0 : Fr (SD d) X (sI X 3 0 2 (nI (m + 32))) := Fr.sI m3
    have g0 : FrW W (sI W 48 0 35 (nI (((m + 32) % 32) * 2 + (m + 32) / 32))) := FrW.s48 (by omega)
    generalize sI X 3 0 2 (nI (m + 32)) = X0 at h' f0 ⊢
    generalize sI W 48 0 35 (nI (((m + 32) % 32) * 2 + (m + 32) / 32)) = W0 at h' g0 ⊢
    have h00 := h'.2.2.2.1.2.2.1
    obtain ⟨X1, W1, eX1, eW1, n1⟩ := h'.step
    have r1 := h'.nx n1
    have hd1 : X1.2 2 = d := r1.1
    have h01 := r1.2.2.2.1.2.2.1
    obtain ⟨t1, t2⟩ := r_tal r1.2.2.1 (x := fun Y => fn_287_J35 (nI 0) Y) (y := fun Y => fn_287_J35 (nI 1) Y)
    have e287 : fn_287 W0 = if tl3 L B (nxt L B s) = 3 then fn_287_J35 (nI 0) W1 else fn_287_J35 (nI 1) W1 := by
      unfold fn_287 fn_287_J34
      rw [eW1, bd_t]
      exact t1
    have tz : ∀ a b c, wb L B (nxt L B s) 8 = a → wb L B (nxt L B s) 9 = b → wb L B (nxt L B s) 10 = c → tl3 L B (nxt L B s) = cond a 0 (cond b 1 (cond c 2 3)) := fun a b c h1 h2 h3 => by
      unfold tl3
      rw [h1, h2, h3]
      cases a <;> cases b <;> cases c <;> rfl
    rw [eX1, bd_t, c_is r1.2.1 (by omega), bd_t, bI_0, r_fine h00, bd_t, if_neg (by decide), e287]
    have fX : Fr (SD d) X X1 := f0.tr n1.1.d4
    have fW : FrW W W1 := g0.tr n1.2.1.w
    -- a tally
    have good : ∀ x, x < 3 → tl3 L B (nxt L B s) = x → ∃ v Z Z2, (wr (sI X1 5 (X1.2 2) 7 (nI x)) fun Y23 => bd (fn_95 Y23) fun _ Y24 => some (nI 1, Y24)) = some (v, Z) ∧ (bd (if tl3 L B (nxt L B s) = 3 then fn_287_J35 (nI 0) W1 else fn_287_J35 (nI 1) W1) fun _ Y => some ((), Y)) = some ((), Z2) ∧ Ou d L B s X W v Z Z2 := fun x hx ex => by
      have e28 := (t2 (by omega)).2
      rw [ex] at e28
      have tX2 : TkC (sI X1 5 d 7 (nI x)) L B (nxt L B s) := r1.2.1.cg (by rw [gI_sIk (by omega)]) (by rw [gI_sIk (by omega)]) (by rw [gI_sIk (by omega)])
      have tW2 : TkM (sI W1 53 0 1 (nI x)) L B (nxt L B s) := r1.2.2.1.cg (by rw [gI_sIk (by omega)]) (fun y _ _ => by rw [gI_sIk (by omega)]) rfl
      have r2 : RdR d L B (nxt L B s) C A n (sI X1 5 d 7 (nI x)) (sI W1 53 0 1 (nI x)) := by
        refine ⟨hd1, tX2, tW2, ?_, Dr.setT r1.2.2.2.2 hx⟩
        unfold NE
        rw [gI_sIk (by omega), gI_sIk (by omega)]
        exact r1.2.2.2.1
      obtain ⟨X3, W3, eX3, eW3, n3⟩ := r2.step
      have r3 := r2.nx n3
      refine ⟨nI 1, X3, W3, by rw [hd1, wr_t, eX3, bd_t], ?_, (fX.tr (Fr.sI (SDm (by decide)))).tr n3.1.d4, (fW.tr (FrW.sk (by decide))).tr n3.2.1.w, Or.inl ⟨rfl, nxt L B (nxt L B s), C, A, n, ?_, r3⟩⟩
      · rw [if_neg (by omega)]
        unfold fn_287_J35
        rw [r_needs, bd_t, r_fine h01, bd_t, if_neg (by decide), e28, wr_t, eW3, bd_t, bd_t]
      · have : s < nxt L B s := nxt_gt hs
        have : nxt L B s ≤ nxt L B (nxt L B s) := Nat.le_trans edS_ge rn_ge
        omega
    cases w8 : wb L B (nxt L B s) 8 with
    | true =>
      rw [cnd_t]
      exact good 0 (by omega) (by rw [tz _ _ _ w8 rfl rfl, cnd_t])
    | false =>
      rw [cnd_f, c_is r1.2.1 (by omega), bd_t, bI_0]
      cases w9 : wb L B (nxt L B s) 9 with
      | true =>
        rw [cnd_t]
        exact good 1 (by omega) (by rw [tz _ _ _ w8 w9 rfl, cnd_f, cnd_t])
      | false =>
        rw [cnd_f, c_is r1.2.1 (by omega), bd_t, bI_0]
        cases w10 : wb L B (nxt L B s) 10 with
        | true =>
          rw [cnd_t]
          exact good 2 (by omega) (by rw [tz _ _ _ w8 w9 w10, cnd_f, cnd_f, cnd_t])
        | false =>
          have nb := erM_ne (W := W1) (e := 1) (by omega) (by omega)
          have := r_need (W := W1) (b := false) (e := 1) h01
          rw [bI_f, cnd_f] at this
          rw [cnd_f, c_60, bd_t, ck_t (by decide), if_pos (by rw [tz _ _ _ w8 w9 w10, cnd_f, cnd_f, cnd_f])]
          unfold fn_287_J35
          rw [this, bd_t, r_bad nb, bd_t, if_pos rfl, r_goOnb nb, bd_t, bd_t]
          exact ⟨nI 0, _, _, rfl, rfl, Ou.err (e := 1) (by omega) (by omega) (fX.tr erC_f) (fW.tr erM_f) r1.2.1 r1.2.2.1 erC_3 erC_4 erM_31 erM_32⟩
