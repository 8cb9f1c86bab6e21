/-! the reference's next token -/
def FrT (W Z : Sm) : Prop := Z.2 = W.2 ∧ (∀ k i, k ≠ 48 → gI Z.1 k i = gI W.1 k i ∧ gJ Z.1 k i = gJ W.1 k i) ∧ ∀ x, ¬ (25 ≤ x ∧ x ≤ 30) → gI Z.1 48 0 x = gI W.1 48 0 x
theorem FrT.rf {W : Sm} : FrT W W := ⟨rfl, fun _ _ _ => ⟨rfl, rfl⟩, fun _ _ => rfl⟩
theorem FrT.tr {W X Z : Sm} (h : FrT W X) (h2 : FrT X Z) : FrT W Z := ⟨h2.1.trans h.1, fun k i hk => ⟨(h2.2.1 k i hk).1.trans (h.2.1 k i hk).1, (h2.2.1 k i hk).2.trans (h.2.1 k i hk).2⟩, fun x hx => (h2.2.2 x hx).trans (h.2.2 x hx)⟩
theorem FrT.sI {W : Sm} {x : Nat} {v : Int32} (hx : 25 ≤ x ∧ x ≤ 30) : FrT W (sI W 48 0 x v) := ⟨rfl, fun k i hk => ⟨by rw [gI_sIk hk], rfl⟩, fun y hy => by rw [gI_sIv, upd_ne (fun q => hy (by rw [q]; exact hx))]⟩
theorem FrT.sJ {W : Sm} {x : Nat} {v : Int64} : FrT W (sJ W 48 0 x v) := ⟨rfl, fun k i hk => ⟨rfl, by
  funext j
  rw [gJ_sJ, if_neg (fun q => hk q.1)]⟩, fun y hy => rfl⟩
theorem FrT.tx {W Z : Sm} {L : Nat} {B : Nat → Nat} (h : FrT W Z) (hT : TxM W L B) : TxM Z L B := ⟨hT.1, (h.2.2 24 (by omega)).trans hT.2.1, fun j hj => by rw [(h.2.1 60 0 (by omega)).1]; exact hT.2.2 j hj⟩
theorem r_272 {W : Sm} {L i : Nat} {B : Nat → Nat} (h : TxM W L B) (hi : i < L) : fn_272 (nI i) W = some (nI (B i), W) := by
  have hL := h.1
  unfold fn_272
  rw [h.2.1, iteI_le_f hi (by omega), ck_in (by omega) (by omega), ix_nI (by omega), (h.2.2 i hi).2, sb_and _ (h.2.2 i hi).1]
theorem r_272o {W : Sm} {L i : Nat} {B : Nat → Nat} (h : TxM W L B) (hi : L ≤ i) (h2 : i < 2 ^ 31) : fn_272 (nI i) W = some ((-1 : Int32), W) := by
  have hL := h.1
  unfold fn_272
  rw [h.2.1, iteI_le_t hi h2]
theorem rng {a b n : Nat} (ha : a < 2 ^ 31) (hb : b < 2 ^ 31) (hn : n < 2 ^ 31) : decide ((nI a).toInt64 ≤ (nI n).toInt64 ∧ (nI n).toInt64 ≤ (nI b).toInt64) = decide (a ≤ n ∧ n ≤ b) := by
  simp only [i64_le, Int32.le_iff_toInt_le]
  rw [nI_toInt ha, nI_toInt hb, nI_toInt hn]
  congr 1
  apply propext
  omega
theorem rng_m {a b : Nat} (ha : a < 2 ^ 31) : decide ((nI a).toInt64 ≤ (-1 : Int32).toInt64 ∧ (-1 : Int32).toInt64 ≤ (nI b).toInt64) = false := by
  rw [decide_eq_false_iff_not]
  simp only [i64_le, Int32.le_iff_toInt_le]
  rw [nI_toInt ha, show (-1 : Int32).toInt = -1 from rfl]
  omega
theorem r_273 {W : Sm} {L i : Nat} {B : Nat → Nat} (h : TxM W L B) (hi : i < L) : fn_273 (nI i) W = some (bI (ltA (B i)), W) := by
  have := (h.2.2 i hi).1
  unfold fn_273
  rw [r_272 h hi, bd_t, r_isIn, rng (by omega) (by omega) (by omega), bd_t, ck_bz]
  rfl
theorem r_273o {W : Sm} {L i : Nat} {B : Nat → Nat} (h : TxM W L B) (hi : L ≤ i) (h2 : i < 2 ^ 31) : fn_273 (nI i) W = some (nI 0, W) := by
  unfold fn_273
  rw [r_272o h hi h2, bd_t, r_isIn, rng_m (by omega), bd_t, ck_bz]
  rfl
def dgV (B : Nat → Nat) (s : Nat) : Nat → Nat
  | 0 => 0
  | j + 1 => 10 * dgV B s j + (B (s + j) - 48)
theorem dgV_lt {B : Nat → Nat} {s : Nat} : ∀ j, (∀ i, i < j → dgA (B (s + i)) = true) → dgV B s j < 10 ^ j := by
  intro j
  induction j with
  | zero => intro _; exact Nat.one_pos
  | succ j ih =>
    intro h
    have h1 := ih (fun i hi => h i (by omega))
    have h2 := of_decide_eq_true (h j (by omega))
    show 10 * dgV B s j + (B (s + j) - 48) < 10 ^ (j + 1)
    rw [Nat.pow_succ]
    omega
def krS (L : Nat) (B : Nat → Nat) (s : Nat) : Nat := if kdS L B s = 2 then (if edS L B s - s ≤ 3 then 2 else 4) else kdS L B s
theorem r_274 {W : Sm} {L p : Nat} {B : Nat → Nat} (h : TxM W L B) (hp : p ≤ L) (e25 : gI W.1 48 0 25 = nI p) : ∃ Z, fn_274 W = some ((), Z) ∧ FrT W Z ∧ gI Z.1 48 0 26 = nI (rn L B isBl p) ∧ gI Z.1 48 0 25 = nI (edS L B (rn L B isBl p)) ∧ gI Z.1 48 0 27 = nI (krS L B (rn L B isBl p)) ∧ (kdS L B (rn L B isBl p) = 1 → gI Z.1 48 0 28 = wd B (rn L B isBl p) (edS L B (rn L B isBl p)) ∧ gJ Z.1 48 0 30 = nL (n32 (wl B (rn L B isBl p) (min (edS L B (rn L B isBl p) - rn L B isBl p) 6)))) ∧ (krS L B (rn L B isBl p) = 2 → gI Z.1 48 0 29 = nI (dgV B (rn L B isBl p) (edS L B (rn L B isBl p) - rn L B isBl p))) := by
  have hL := h.1
  have hs := rn_le (B := B) (q := isBl) hp
  have hs1 := rn_ge (L := L) (B := B) (q := isBl) (p := p)
  have b1 : ∃ Z, lp (fun s => fn_274_L0 s) FU W = some (.inl Z) ∧ FrT W Z ∧ gI Z.1 48 0 25 = nI (rn L B isBl p) := by
    have key := Ok_lp (F := fun s => fn_274_L0 s) (Q := fun x => ∃ Z, x = .inl Z ∧ FrT W Z ∧ gI Z.1 48 0 25 = nI (rn L B isBl p)) (fun j s => FrT W s ∧ gI s.1 48 0 25 = nI (p + j)) (rn L B isBl p - p) (N := FU) (FU_lt (by omega)) (s := W) ?_ ?_ ?_
    · obtain ⟨x, ex, Z, rfl, hZ⟩ := key
      exact ⟨Z, ex, hZ⟩
    · rintro j s hj ⟨hF, e2⟩
      have hT := hF.tx h
      have hb := rn_in (q := isBl) (p := p) (L := L) (B := B) (i := p + j) (by omega) (by omega)
      have h256 := (h.2.2 (p + j) (by omega)).1
      refine ⟨.inl (sI s 48 0 25 (nI (p + (j + 1)))), ?_, hF.tr (FrT.sI (by omega)), by rw [gI_sIv, upd_at]⟩
      simp only [fn_274_L0]
      rw [e2, r_272 hT (by omega), bd_t]
      by_cases c : B (p + j) = 32
      · rw [c, if_pos rfl, e2, wr_t, nI_add]
        rfl
      · rw [if_neg (fun q => c ((nI_eq (by omega) (by omega)).mp q)), e2, r_272 hT (by omega), bd_t]
        have d : B (p + j) = 10 := by
          unfold isBl at hb
          rw [beq_ne c, Bool.false_or] at hb
          exact Nat.eq_of_beq_eq_true hb
        rw [d, if_pos rfl, e2, wr_t, nI_add]
        rfl
    · rintro s ⟨hF, e2⟩
      have hT := hF.tx h
      rw [show p + (rn L B isBl p - p) = rn L B isBl p by omega] at e2
      refine ⟨.inr (.inl s), ?_, s, rfl, hF, e2⟩
      simp only [fn_274_L0]
      by_cases c : rn L B isBl p < L
      · have h256 := (h.2.2 _ c).1
        have hb := rn_at (B := B) (q := isBl) c
        unfold isBl at hb
        rw [Bool.or_eq_false_iff] at hb
        have c1 : B (rn L B isBl p) ≠ 32 := fun q => by
          have := hb.1
          unfold isBl at q
          rw [q] at this
          cases this
        have c2 : B (rn L B isBl p) ≠ 10 := fun q => by
          have := hb.2
          unfold isBl at q
          rw [q] at this
          cases this
        rw [e2, r_272 hT c, bd_t, if_neg (fun q => c1 ((nI_eq (by omega) (by omega)).mp q)), e2, r_272 hT c, bd_t, if_neg (fun q => c2 ((nI_eq (by omega) (by omega)).mp q))]
      · rw [e2, r_272o hT (by omega) (by omega), bd_t, if_neg (by decide), e2, r_272o hT (by omega) (by omega), bd_t, if_neg (by decide)]
    · exact ⟨FrT.rf, e25⟩
  obtain ⟨Z1, e1, f1, g1⟩ := b1
  unfold fn_274
  rw [e1, exd_l]
  unfold fn_274_J39
  rw [g1, wr_t]
  generalize hs0 : rn L B isBl p = s at *
  generalize hZ2 : sI Z1 48 0 26 (nI s) = Z2
  have f2 : FrT W Z2 := by rw [← hZ2]; exact f1.tr (FrT.sI (by omega))
  have g25 : gI Z2.1 48 0 25 = nI s := by rw [← hZ2, gI_sIv, upd_ne (by omega)]; exact g1
  have g26 : gI Z2.1 48 0 26 = nI s := by rw [← hZ2, gI_sIv, upd_at]
  have hT2 := f2.tx h
  rw [g25]
  by_cases c : s < L
  · have h256 := (h.2.2 s c).1
    rw [r_272 hT2 c, bd_t, if_neg (nI_ne_m1 (by omega)), g25, r_273 hT2 c, bd_t, bI_0]
    cases hl : ltA (B s) with
    | true =>
      have ek : kdS L B s = 1 := by unfold kdS; rw [if_pos c, if_pos hl]
      have er : krS L B s = 1 := by unfold krS; rw [ek, if_neg (by omega)]
      have ee : edS L B s = rn L B ltA s := by unfold edS; rw [if_pos c, if_pos hl]
      have he := rn_le (B := B) (q := ltA) hs
      have he1 := rn_ge (L := L) (B := B) (q := ltA) (p := s)
      rw [cnd_t, wr_t, er, ee]
      have hlt : ∀ i, s ≤ i → i < rn L B ltA s → ltA (B i) = true := fun i h1 h2 => rn_in h1 h2
      have key : ∃ Z, lp (fun s => fn_274_L85 s) FU (sJ Z2 48 0 30 (Int64.ofNat 0)) = some (.inl Z) ∧ FrT W Z ∧ gI Z.1 48 0 26 = nI s ∧ gI Z.1 48 0 25 = nI (rn L B ltA s) ∧ gJ Z.1 48 0 30 = nL (n32 (wl B s (min (rn L B ltA s - s) 6))) := by
        have key := Ok_lp (F := fun s => fn_274_L85 s) (Q := fun x => ∃ Z, x = .inl Z ∧ FrT W Z ∧ gI Z.1 48 0 26 = nI s ∧ gI Z.1 48 0 25 = nI (rn L B ltA s) ∧ gJ Z.1 48 0 30 = nL (n32 (wl B s (min (rn L B ltA s - s) 6)))) (fun j y => FrT W y ∧ gI y.1 48 0 26 = nI s ∧ gI y.1 48 0 25 = nI (s + j) ∧ gJ y.1 48 0 30 = nL (n32 (wl B s (min j 6)))) (rn L B ltA s - s) (N := FU) (FU_lt (by omega)) (s := sJ Z2 48 0 30 (Int64.ofNat 0)) ?_ ?_ ?_
        · obtain ⟨x, ex, Z, rfl, hZ⟩ := key
          exact ⟨Z, ex, hZ⟩
        · rintro j y hj ⟨hF, q1, q2, q3⟩
          have hT := hF.tx h
          have hb := ltA_iff.mp (hlt (s + j) (by omega) (by omega))
          simp only [fn_274_L85]
          rw [q2, r_273 hT (by omega), hlt (s + j) (by omega) (by omega), bd_t, bI_t, if_neg (by decide), q2, q1, pk_sub (by omega), show s + j - s = j by omega]
          by_cases d : 6 ≤ j
          · refine ⟨.inl (sI y 48 0 25 (nI (s + (j + 1)))), ?_, hF.tr (FrT.sI (by omega)), by rw [gI_sIv, upd_ne (by omega)]; exact q1, by rw [gI_sIv, upd_at], ?_⟩
            · rw [iteI_le_t d (by omega), wr_t, nI_add]
              rfl
            · rw [show min (j + 1) 6 = min j 6 by omega]
              exact q3
          · have n1 : n32 (wl B s j) < 2 ^ 30 := n32_b (by omega) (fun i hi => ltA_iff.mp (hlt (s + i) (by omega) (by omega)))
            refine ⟨.inl (sI (sJ y 48 0 30 (nL (n32 (wl B s (j + 1))))) 48 0 25 (nI (s + (j + 1)))), ?_, (hF.tr FrT.sJ).tr (FrT.sI (by omega)), by rw [gI_sIv, upd_ne (by omega)]; exact q1, by rw [gI_sIv, upd_at], ?_⟩
            · have y25 : ∀ v, gI (sJ y 48 0 30 v).1 48 0 25 = nI (s + j) := fun v => q2
              rw [iteI_le_f (by omega) (by omega), r_272 hT (by omega), bd_t, q3, show min j 6 = j by omega, nI_nL (by omega), nI_nL (by omega), nI_nL (by omega), nL_mul, nL_add, nL_sub (by omega), wr_t, y25, wr_t, nI_add, n32_s, Nat.mul_comm, show n32 (wl B s j) * 32 + B (s + j) - 96 = n32 (wl B s j) * 32 + (B (s + j) - 96) by omega]
              rfl
            · rw [show min (j + 1) 6 = j + 1 by omega, gJ_sI, gJ_sJ, if_pos ⟨rfl, rfl, rfl⟩]
        · rintro y ⟨hF, q1, q2, q3⟩
          have hT := hF.tx h
          rw [show s + (rn L B ltA s - s) = rn L B ltA s by omega] at q2
          refine ⟨.inr (.inl y), ?_, y, rfl, hF, q1, q2, q3⟩
          simp only [fn_274_L85]
          by_cases d : rn L B ltA s < L
          · rw [q2, r_273 hT d, rn_at d, bd_t, bI_f, if_pos rfl]
          · rw [q2, r_273o hT (by omega) (by omega), bd_t, if_pos rfl]
        · refine ⟨f2.tr FrT.sJ, g26, g25, ?_⟩
          rw [gJ_sJ, if_pos ⟨rfl, rfl, rfl⟩]
          rfl
      obtain ⟨Z3, e3, f3, q1, q2, q3⟩ := key
      rw [e3, exd_l]
      unfold fn_274_J149
      rw [wr_t]
      have f4 : FrT W (sI Z3 48 0 27 (nI 1)) := f3.tr (FrT.sI (by omega))
      have r1 : gI (sI Z3 48 0 27 (nI 1)).1 48 0 26 = nI s := by rw [gI_sIv, upd_ne (by omega)]; exact q1
      have r2 : gI (sI Z3 48 0 27 (nI 1)).1 48 0 25 = nI (rn L B ltA s) := by rw [gI_sIv, upd_ne (by omega)]; exact q2
      rw [r_275 (f4.tx h) r1 r2 he1 he hlt, bd_t, wr_t]
      refine ⟨_, rfl, f4.tr (FrT.sI (by omega)), ?_, ?_, ?_, fun _ => ⟨?_, ?_⟩, fun q => by omega⟩
      · rw [gI_sIv, upd_ne (by omega)]; exact r1
      · rw [gI_sIv, upd_ne (by omega)]; exact r2
      · rw [gI_sIv, upd_ne (by omega), gI_sIv, upd_at]
      · rw [gI_sIv, upd_at]
      · rw [gJ_sI, gJ_sI]; exact q3
    | false =>
      rw [cnd_f, r_isIn, rng (by omega) (by omega) (by omega), bd_t, bI_0]
      cases hd : dgA (B s) with
      | true =>
        have ek : kdS L B s = 2 := by unfold kdS; rw [if_pos c, hl, if_neg (by decide), if_pos hd]
        have ee : edS L B s = rn L B dgA s := by unfold edS; rw [if_pos c, hl, if_neg (by decide), if_pos hd]
        have er : krS L B s = if rn L B dgA s - s ≤ 3 then 2 else 4 := by unfold krS; rw [ek, if_pos rfl, ee]
        have he := rn_le (B := B) (q := dgA) hs
        have he1 := rn_ge (L := L) (B := B) (q := dgA) (p := s)
        have hdt : ∀ i, s ≤ i → i < rn L B dgA s → dgA (B i) = true := fun i h1 h2 => rn_in h1 h2
        have hd' : decide (48 ≤ B s ∧ B s ≤ 57) = true := hd
        rw [hd', cnd_t, wr_t, ee, er]
        have key : ∃ Z, lp (fun s => fn_274_L184 s) FU (sI Z2 48 0 29 (nI 0)) = some (.inl Z) ∧ FrT W Z ∧ gI Z.1 48 0 26 = nI s ∧ gI Z.1 48 0 25 = nI (rn L B dgA s) ∧ gI Z.1 48 0 29 = nI (dgV B s (min (rn L B dgA s - s) 3)) := by
          have key := Ok_lp (F := fun s => fn_274_L184 s) (Q := fun x => ∃ Z, x = .inl Z ∧ FrT W Z ∧ gI Z.1 48 0 26 = nI s ∧ gI Z.1 48 0 25 = nI (rn L B dgA s) ∧ gI Z.1 48 0 29 = nI (dgV B s (min (rn L B dgA s - s) 3))) (fun j y => FrT W y ∧ gI y.1 48 0 26 = nI s ∧ gI y.1 48 0 25 = nI (s + j) ∧ gI y.1 48 0 29 = nI (dgV B s (min j 3))) (rn L B dgA s - s) (N := FU) (FU_lt (by omega)) (s := sI Z2 48 0 29 (nI 0)) ?_ ?_ ?_
          · obtain ⟨x, ex, Z, rfl, hZ⟩ := key
            exact ⟨Z, ex, hZ⟩
          · rintro j y hj ⟨hF, q1, q2, q3⟩
            have hT := hF.tx h
            have hb1 := hdt (s + j) (by omega) (by omega)
            have hb : 48 ≤ B (s + j) ∧ B (s + j) ≤ 57 := of_decide_eq_true hb1
            simp only [fn_274_L184]
            rw [q2, r_272 hT (by omega), bd_t, r_isIn, rng (by omega) (by omega) (by omega), decide_eq_true hb, bd_t, bI_t, if_neg (by decide), q2, q1, pk_sub (by omega), show s + j - s = j by omega]
            by_cases d : 3 ≤ j
            · refine ⟨.inl (sI y 48 0 25 (nI (s + (j + 1)))), ?_, hF.tr (FrT.sI (by omega)), by rw [gI_sIv, upd_ne (by omega)]; exact q1, by rw [gI_sIv, upd_at], ?_⟩
              · rw [iteI_le_t d (by omega), wr_t, nI_add]
                rfl
              · rw [gI_sIv, upd_ne (by omega), show min (j + 1) 3 = min j 3 by omega]
                exact q3
            · have n1 : dgV B s j < 10 ^ j := dgV_lt j (fun i hi => hdt (s + i) (by omega) (by omega))
              have n2 : 10 ^ j ≤ 10 ^ 3 := Nat.pow_le_pow_right (by omega) (by omega)
              refine ⟨.inl (sI (sI y 48 0 29 (nI (dgV B s (j + 1)))) 48 0 25 (nI (s + (j + 1)))), ?_, (hF.tr (FrT.sI (by omega))).tr (FrT.sI (by omega)), by rw [gI_sIv, upd_ne (by omega), gI_sIv, upd_ne (by omega)]; exact q1, by rw [gI_sIv, upd_at], ?_⟩
              · have y25 : ∀ v, gI (sI y 48 0 29 v).1 48 0 25 = nI (s + j) := fun v => by rw [gI_sIv, upd_ne (by omega)]; exact q2
                rw [iteI_le_f (by omega) (by omega), r_272 hT (by omega), bd_t, q3, show min j 3 = j by omega, pk_mul, nI_add, pk_sub (by omega), wr_t, y25, wr_t, nI_add, show 10 * dgV B s j + B (s + j) - 48 = 10 * dgV B s j + (B (s + j) - 48) by omega]
                rfl
              · rw [gI_sIv, upd_ne (by omega), gI_sIv, upd_at, show min (j + 1) 3 = j + 1 by omega]
          · rintro y ⟨hF, q1, q2, q3⟩
            have hT := hF.tx h
            rw [show s + (rn L B dgA s - s) = rn L B dgA s by omega] at q2
            refine ⟨.inr (.inl y), ?_, y, rfl, hF, q1, q2, q3⟩
            simp only [fn_274_L184]
            by_cases d : rn L B dgA s < L
            · have h256 := (h.2.2 _ d).1
              have hn := of_decide_eq_false (rn_at (B := B) (q := dgA) d)
              rw [q2, r_272 hT d, bd_t, r_isIn, rng (by omega) (by omega) (by omega), decide_eq_false hn, bd_t, bI_f, if_pos rfl]
            · rw [q2, r_272o hT (by omega) (by omega), bd_t, r_isIn, rng_m (by omega), bd_t, bI_f, if_pos rfl]
          · exact ⟨f2.tr (FrT.sI (by omega)), by rw [gI_sIv, upd_ne (by omega)]; exact g26, by rw [gI_sIv, upd_ne (by omega)]; exact g25, by rw [gI_sIv, upd_at]; rfl⟩
        obtain ⟨Z3, e3, f3, q1, q2, q3⟩ := key
        rw [e3, exd_l]
        unfold fn_274_J254
        rw [q1, q2, pk_sub he1]
        by_cases d : rn L B dgA s - s ≤ 3
        · rw [iteI_le_t d (by omega), wr_t, if_pos d]
          refine ⟨_, rfl, f3.tr (FrT.sI (by omega)), ?_, ?_, ?_, fun q => by omega, fun _ => ?_⟩
          · rw [gI_sIv, upd_ne (by omega)]; exact q1
          · rw [gI_sIv, upd_ne (by omega)]; exact q2
          · rw [gI_sIv, upd_at]
          · rw [gI_sIv, upd_ne (by omega), q3, show min (rn L B dgA s - s) 3 = rn L B dgA s - s by omega]
        · rw [iteI_le_f (by omega) (by omega), wr_t, if_neg d]
          refine ⟨_, rfl, f3.tr (FrT.sI (by omega)), ?_, ?_, ?_, fun q => by omega, fun q => by omega⟩
          · rw [gI_sIv, upd_ne (by omega)]; exact q1
          · rw [gI_sIv, upd_ne (by omega)]; exact q2
          · rw [gI_sIv, upd_at]
      | false =>
        have ee : edS L B s = s + 1 := by unfold edS; rw [if_pos c, hl, if_neg (by decide), hd, if_neg (by decide)]
        have hd' : decide (48 ≤ B s ∧ B s ≤ 57) = false := hd
        rw [hd', cnd_f, g25, wr_t, ee]
        by_cases d : B s = 59
        · have ek : kdS L B s = 3 := by unfold kdS; rw [if_pos c, hl, if_neg (by decide), hd, if_neg (by decide), if_pos d]
          have er : krS L B s = 3 := by unfold krS; rw [ek, if_neg (by omega)]
          rw [d, if_pos rfl, wr_t, er]
          refine ⟨_, rfl, (f2.tr (FrT.sI (by omega))).tr (FrT.sI (by omega)), ?_, ?_, ?_, fun q => by omega, fun q => by omega⟩
          · rw [gI_sIv, upd_ne (by omega), gI_sIv, upd_ne (by omega)]; exact g26
          · rw [gI_sIv, upd_ne (by omega), gI_sIv, upd_at, nI_add]
          · rw [gI_sIv, upd_at]
        · have ek : kdS L B s = 4 := by unfold kdS; rw [if_pos c, hl, if_neg (by decide), hd, if_neg (by decide), if_neg d]
          have er : krS L B s = 4 := by unfold krS; rw [ek, if_neg (by omega)]
          rw [if_neg (fun q => d ((nI_eq (by omega) (by omega)).mp q)), wr_t, er]
          refine ⟨_, rfl, (f2.tr (FrT.sI (by omega))).tr (FrT.sI (by omega)), ?_, ?_, ?_, fun q => by omega, fun q => by omega⟩
          · rw [gI_sIv, upd_ne (by omega), gI_sIv, upd_ne (by omega)]; exact g26
          · rw [gI_sIv, upd_ne (by omega), gI_sIv, upd_at, nI_add]
          · rw [gI_sIv, upd_at]
  · have ek : kdS L B s = 0 := by unfold kdS; rw [if_neg c]
    have er : krS L B s = 0 := by unfold krS; rw [ek, if_neg (by omega)]
    have ee : edS L B s = s := by unfold edS; rw [if_neg c]
    rw [r_272o hT2 (by omega) (by omega), bd_t, if_pos rfl, wr_t, er, ee]
    refine ⟨_, rfl, f2.tr (FrT.sI (by omega)), ?_, ?_, ?_, fun q => by omega, fun q => by omega⟩
    · rw [gI_sIv, upd_ne (by omega)]; exact g26
    · rw [gI_sIv, upd_ne (by omega)]; exact g25
    · rw [gI_sIv, upd_at]
