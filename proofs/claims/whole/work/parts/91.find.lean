/-! find -/
theorem srs_cg {p q : Nat → Bool} {n : Nat} (h : ∀ j, j < n → p j = q j) : sres p n = sres q n := by
  unfold sres
  rw [srch_cg h]
theorem srs_no {p : Nat → Bool} {n : Nat} (h : ∀ j, j < n → p j = false) : sres p n = (-1 : Int32) := by
  unfold sres
  rw [srch_none h, ble_t (Nat.le_refl n)]
  rfl
theorem c_56 {Y : Sm} {d n : Nat} (x : Int64) (h : gI Y.1 5 d 0 = nI n) (hn : n ≤ 5) : fn_56 d x Y = some (sres (fun k => decide (gJ Y.1 6 d k = x)) n, Y) := by
  unfold fn_56
  refine lp_sres _ n (by omega) (fun j hj hp => ?_) (fun j hj hp => ?_) ?_
  · simp only [fn_56_L2, h]
    rw [iteI_le_f hj (by omega), ck_in (by omega) (by omega), ix_nI (by omega), if_neg (fun q => of_decide_eq_false hp (lg_0.mp q)), nI_add]
  · simp only [fn_56_L2, h]
    rw [iteI_le_f hj (by omega), ck_in (by omega) (by omega), ix_nI (by omega), if_pos (lg_0.mpr (of_decide_eq_true hp))]
  · simp only [fn_56_L2, h]
    rw [iteI_le_t (Nat.le_refl _) (by omega)]
theorem c_57 {Y : Sm} {d n : Nat} (x : Int64) (h : gI Y.1 5 d 3 = nI n) (hn : n ≤ 8) : fn_57 d x Y = some (sres (fun k => decide (gJ Y.1 8 d k = x)) n, Y) := by
  unfold fn_57
  refine lp_sres _ n (by omega) (fun j hj hp => ?_) (fun j hj hp => ?_) ?_
  · simp only [fn_57_L2, h]
    rw [iteI_le_f hj (by omega), ck_in (by omega) (by omega), ix_nI (by omega), if_neg (fun q => of_decide_eq_false hp (lg_0.mp q)), nI_add]
  · simp only [fn_57_L2, h]
    rw [iteI_le_f hj (by omega), ck_in (by omega) (by omega), ix_nI (by omega), if_pos (lg_0.mpr (of_decide_eq_true hp))]
  · simp only [fn_57_L2, h]
    rw [iteI_le_t (Nat.le_refl _) (by omega)]
theorem r_282_50 {Y : Sm} {n : Nat} (x : Int64) (hn : n ≤ 5) : fn_282_50 (nI n) x Y = some (sres (fun k => decide (gJ Y.1 50 0 k = x)) n, Y) := by
  unfold fn_282_50
  refine lp_sres _ n (by omega) (fun j hj hp => ?_) (fun j hj hp => ?_) ?_
  · simp only [fn_282_50_L3]
    rw [iteI_le_f hj (by omega), ck_in (by omega) (by omega), ix_nI (by omega), if_neg (fun q => of_decide_eq_false hp (lg_0.mp q)), nI_add]
  · simp only [fn_282_50_L3]
    rw [iteI_le_f hj (by omega), ck_in (by omega) (by omega), ix_nI (by omega), if_pos (lg_0.mpr (of_decide_eq_true hp))]
  · simp only [fn_282_50_L3]
    rw [iteI_le_t (Nat.le_refl _) (by omega)]
theorem r_282_51 {Y : Sm} {n : Nat} (x : Int64) (hn : n ≤ 8) : fn_282_51 (nI n) x Y = some (sres (fun k => decide (gJ Y.1 51 0 k = x)) n, Y) := by
  unfold fn_282_51
  refine lp_sres _ n (by omega) (fun j hj hp => ?_) (fun j hj hp => ?_) ?_
  · simp only [fn_282_51_L3]
    rw [iteI_le_f hj (by omega), ck_in (by omega) (by omega), ix_nI (by omega), if_neg (fun q => of_decide_eq_false hp (lg_0.mp q)), nI_add]
  · simp only [fn_282_51_L3]
    rw [iteI_le_f hj (by omega), ck_in (by omega) (by omega), ix_nI (by omega), if_pos (lg_0.mpr (of_decide_eq_true hp))]
  · simp only [fn_282_51_L3]
    rw [iteI_le_t (Nat.le_refl _) (by omega)]
theorem r_282_63 {Y : Sm} {n : Nat} (x : Int64) (hn : n ≤ 5) : fn_282_63 (nI n) x Y = some (sres (fun k => decide (gJ Y.1 63 0 k = x)) n, Y) := by
  unfold fn_282_63
  refine lp_sres _ n (by omega) (fun j hj hp => ?_) (fun j hj hp => ?_) ?_
  · simp only [fn_282_63_L3]
    rw [iteI_le_f hj (by omega), ck_in (by omega) (by omega), ix_nI (by omega), if_neg (fun q => of_decide_eq_false hp (lg_0.mp q)), nI_add]
  · simp only [fn_282_63_L3]
    rw [iteI_le_f hj (by omega), ck_in (by omega) (by omega), ix_nI (by omega), if_pos (lg_0.mpr (of_decide_eq_true hp))]
  · simp only [fn_282_63_L3]
    rw [iteI_le_t (Nat.le_refl _) (by omega)]
theorem r_282_64 {Y : Sm} {n : Nat} (x : Int64) (hn : n ≤ 8) : fn_282_64 (nI n) x Y = some (sres (fun k => decide (gJ Y.1 64 0 k = x)) n, Y) := by
  unfold fn_282_64
  refine lp_sres _ n (by omega) (fun j hj hp => ?_) (fun j hj hp => ?_) ?_
  · simp only [fn_282_64_L3]
    rw [iteI_le_f hj (by omega), ck_in (by omega) (by omega), ix_nI (by omega), if_neg (fun q => of_decide_eq_false hp (lg_0.mp q)), nI_add]
  · simp only [fn_282_64_L3]
    rw [iteI_le_f hj (by omega), ck_in (by omega) (by omega), ix_nI (by omega), if_pos (lg_0.mpr (of_decide_eq_true hp))]
  · simp only [fn_282_64_L3]
    rw [iteI_le_t (Nat.le_refl _) (by omega)]
def Aln (L : Nat) (B : Nat → Nat) : Prop := 1 ≤ L ∧ L ≤ 6 ∧ ∀ i, i < L → ltA (B i) = true
theorem Aln.wd {L : Nat} {B : Nat → Nat} (h : Aln L B) : (∀ i, i < L → 97 ≤ B (0 + i) ∧ B (0 + i) ≤ 122) := fun i hi => by
  rw [Nat.zero_add]
  exact ltA_iff.mp (h.2.2 i hi)
theorem Aln.no {L : Nat} {B : Nat → Nat} (h : ¬ Aln L B) (h1 : 1 ≤ L) (h6 : L ≤ 6) : srch (fun i => !ltA (B i)) L < L := by
  rcases Nat.lt_or_ge (srch (fun i => !ltA (B i)) L) L with q | q
  · exact q
  · refine absurd ⟨h1, h6, fun i hi => ?_⟩ h
    have := srch_no (p := fun i => !ltA (B i)) (n := L) (j := i) (by omega)
    cases e : ltA (B i) with
    | true => rfl
    | false => rw [e] at this; cases this
theorem c_22y {Y : Sm} {L : Nat} {B : Nat → Nat} (h : Tx Y L B) (hA : Aln L B) : fn_22 Y = some (nL (n256 (wl B 0 L)), Y) := by
  obtain ⟨h1, h6, hl⟩ := hA
  unfold fn_22
  rw [h.2.1, iteI_lt_f h1 (by omega), iteI_le_t h6 (by omega)]
  have e : lp (fun s => fn_22_L23 s.1 s.2) FU (nI 0, Y) = some (.inl Y) := by
    refine lp_run (fun j => (nI j, Y)) L (FU_lt (by omega)) (fun j hj => ?_) ?_ rfl
    · simp only [fn_22_L23, h.2.1]
      rw [iteI_le_f hj (by omega), c_19 h hj, hl j hj, bd_t, bI_t, if_neg (by decide), nI_add]
    · simp only [fn_22_L23, h.2.1]
      rw [iteI_le_t (Nat.le_refl _) (by omega)]
  rw [e, exd_l]
  unfold fn_22_J49
  have := c_23 (s := 0) (j := L) h h6 (by omega) (Aln.wd ⟨h1, h6, hl⟩)
  rw [Nat.zero_add] at this
  rw [h.2.1, this, bd_t]
theorem c_22n {Y : Sm} {L : Nat} {B : Nat → Nat} (h : Tx Y L B) (hA : ¬ Aln L B) : fn_22 Y = some ((-1 : Int32).toInt64, Y) := by
  have hL := h.1
  unfold fn_22
  rw [h.2.1]
  by_cases h1 : 1 ≤ L
  · rw [iteI_lt_f h1 (by omega)]
    by_cases h6 : L ≤ 6
    · rw [iteI_le_t h6 (by omega)]
      have hs := Aln.no hA h1 h6
      have e : lp (fun s => fn_22_L23 s.1 s.2) FU (nI 0, Y) = some (.inr ((-1 : Int32).toInt64, Y)) := by
        refine lp_run (fun j => (nI j, Y)) (srch (fun i => !ltA (B i)) L) (FU_lt (by omega)) (fun j hj => ?_) ?_ rfl
        · have := srch_no hj
          have lt : ltA (B j) = true := by
            cases e : ltA (B j) with
            | true => rfl
            | false => simp only [e] at this; cases this
          simp only [fn_22_L23, h.2.1]
          rw [iteI_le_f (by omega) (by omega), c_19 h (by omega), lt, bd_t, bI_t, if_neg (by decide), nI_add]
        · have := srch_yes hs
          have lt : ltA (B (srch (fun i => !ltA (B i)) L)) = false := by
            cases e : ltA (B (srch (fun i => !ltA (B i)) L)) with
            | false => rfl
            | true => simp only [e] at this; cases this
          simp only [fn_22_L23, h.2.1]
          rw [iteI_le_f hs (by omega), c_19 h hs, lt, bd_t, bI_f, if_pos rfl]
      rw [e, exd_r]
    · rw [iteI_le_f (by omega) (by omega)]
  · rw [iteI_lt_t (by omega) (by omega)]
def fdS (a : Int32) (P : Pm) (p q : Nat → Bool) : Int32 := if a = nI 0 then sres p P.1 else sres q P.2.1
theorem ltS {n : Nat} (hn : n < 256) : decide ((nI 97).toInt64 ≤ (sb n).toInt64 ∧ (sb n).toInt64 ≤ (nI 122).toInt64) = ltA n := by
  unfold ltA
  have := sb_int n hn
  simp only [i64_le, Int32.le_iff_toInt_le]
  rw [nI_toInt (by omega), nI_toInt (by omega)]
  by_cases c : n < 128
  · rw [if_pos c] at this
    rw [this]
    congr 1
    apply propext
    omega
  · rw [if_neg c] at this
    rw [this]
    congr 1
    apply propext
    omega
theorem sb_lo {n : Nat} (h : n < 128) : sb n = nI n := by
  rw [← Int32.toInt_inj, sb_int n (by omega), if_pos h, nI_toInt (by omega)]
theorem r_295 {W : Sm} {P : Pm} {L : Nat} {B : Nat → Nat} (hM : MP W P) (a : Int32) (hL : L ≤ 500) (h23 : gI W.1 48 0 23 = nI L) (hB : ∀ j, j < L → B j < 256 ∧ gI W.1 60 0 j = sb (B j)) {v : Int32} (hy : Aln L B → v = fdS a P (fun k => decide (gJ W.1 50 0 k = nL (n32 (wl B 0 L)))) (fun k => decide (gJ W.1 51 0 k = nL (n32 (wl B 0 L))))) (hn : ¬ Aln L B → v = (-1 : Int32)) : fn_295 a W = some (v, sI (sI W 48 0 0 (nI 0)) 48 0 23 (nI 0)) := by
  have h3 := hM.2.2.1
  have e23 : gI (sI W 48 0 0 (nI 0)).1 48 0 23 = nI L := by rw [gI_sIv, upd_ne (by omega)]; exact h23
  unfold fn_295
  rw [wr_t, wr_t, e23, i64_1, r_isIn, in_1 (by omega), bd_t]
  generalize hX : sI (sI W 48 0 0 (nI 0)) 48 0 23 (nI 0) = X
  have x60 : gI X.1 60 0 = gI W.1 60 0 := by rw [← hX, gI_sIk (by omega), gI_sIk (by omega)]
  by_cases h1 : 1 ≤ L
  · by_cases h6 : L ≤ 6
    · have eb : (inb (nI L) (6 + 1) && !decide (nI L = nI 0)) = true := by
        rw [Bool.and_eq_true, inb_iff, Bool.not_eq_true', decide_eq_false_iff_not, nI_toInt (by omega), nI_eq (by omega) (by omega)]
        omega
      rw [eb, bI_t, if_neg (by decide)]
      by_cases hA : Aln L B
      · have e : lp (fun s => fn_295_L34 a (nI L) s.1 s.2.1 s.2.2) FU (nL 0, nI 0, X) = some (.inl (nL (n32 (wl B 0 L)), X)) := by
          refine lp_run (fun j => (nL (n32 (wl B 0 j)), nI j, X)) L (FU_lt (by omega)) (fun j hj => ?_) ?_ rfl
          · have hb := hA.wd j hj
            have b1 := n32_b (B := B) (s := 0) (j := j) (by omega) (fun q hq => hA.wd q (by omega))
            rw [Nat.zero_add] at hb
            simp only [fn_295_L34, x60]
            rw [iteI_le_f hj (by omega), ck_in (by omega) (by omega), ix_nI (by omega), (hB j hj).2, r_isIn, ltS (hB j hj).1, hA.2.2 j hj, bd_t, bI_t, if_neg (by decide), x60, (hB j (by omega)).2, sb_lo (by omega), nI_nL (by omega), nI_nL (by omega), nI_nL (by omega), nL_mul, nL_add, nL_sub (by omega), nI_add, n32_s, Nat.zero_add, Nat.mul_comm, show n32 (wl B 0 j) * 32 + B j - 96 = n32 (wl B 0 j) * 32 + (B j - 96) by omega]
          · simp only [fn_295_L34]
            rw [iteI_le_t (Nat.le_refl _) (by omega)]
        rw [e, exd_l, hy hA]
        unfold fn_295_J87 fdS
        have x1 : gI X.1 48 0 1 = nI P.1 := by rw [← hX, gI_sIv, upd_ne (by omega), gI_sIv, upd_ne (by omega)]; exact hM.1
        have x2 : gI X.1 48 0 2 = nI P.2.1 := by rw [← hX, gI_sIv, upd_ne (by omega), gI_sIv, upd_ne (by omega)]; exact hM.2.1
        have j50 : gJ X.1 50 0 = gJ W.1 50 0 := by rw [← hX]; rfl
        have j51 : gJ X.1 51 0 = gJ W.1 51 0 := by rw [← hX]; rfl
        rw [x1, x2, r_282_50 _ (by omega), r_282_51 _ (by omega), j50, j51, bd_t, bd_t]
        by_cases c : a = nI 0
        · rw [if_pos c, if_pos c]
        · rw [if_neg c, if_neg c]
      · have hs := Aln.no hA h1 h6
        have e : lp (fun s => fn_295_L34 a (nI L) s.1 s.2.1 s.2.2) FU (nL 0, nI 0, X) = some (.inr ((-1 : Int32), X)) := by
          have hlt : ∀ j, j < srch (fun i => !ltA (B i)) L → ltA (B j) = true := fun j hj => by
            have := srch_no hj
            cases e : ltA (B j) with
            | true => rfl
            | false => simp only [e] at this; cases this
          refine lp_run (fun j => (nL (n32 (wl B 0 j)), nI j, X)) (srch (fun i => !ltA (B i)) L) (FU_lt (by omega)) (fun j hj => ?_) ?_ rfl
          · have lt := hlt j hj
            have hb := ltA_iff.mp lt
            simp only [fn_295_L34, x60]
            rw [iteI_le_f (by omega) (by omega), ck_in (by omega) (by omega), ix_nI (by omega), (hB j (by omega)).2, r_isIn, ltS (hB j (by omega)).1, lt, bd_t, bI_t, if_neg (by decide), x60, (hB j (by omega)).2, sb_lo (by omega), nI_nL (by omega), nI_nL (by omega), nI_nL (by omega), nL_mul, nL_add, nL_sub (by omega), nI_add, n32_s, Nat.zero_add, Nat.mul_comm, show n32 (wl B 0 j) * 32 + B j - 96 = n32 (wl B 0 j) * 32 + (B j - 96) by omega]
          · have := srch_yes hs
            have lt : ltA (B (srch (fun i => !ltA (B i)) L)) = false := by
              cases e : ltA (B (srch (fun i => !ltA (B i)) L)) with
              | false => rfl
              | true => simp only [e] at this; cases this
            simp only [fn_295_L34, x60]
            rw [iteI_le_f hs (by omega), ck_in (by omega) (by omega), ix_nI (by omega), (hB _ hs).2, r_isIn, ltS (hB _ hs).1, lt, bd_t, bI_f, if_pos rfl]
        rw [e, exd_r, hn hA]
    · have eb : (inb (nI L) (6 + 1) && !decide (nI L = nI 0)) = false := by
        rw [Bool.and_eq_false_iff]
        left
        rw [Bool.eq_false_iff]
        intro q
        have := inb_iff.mp q
        rw [nI_toInt (by omega)] at this
        omega
      rw [eb, bI_f, if_pos rfl, hn (fun q => h6 q.2.1)]
  · have eb : (inb (nI L) (6 + 1) && !decide (nI L = nI 0)) = false := by
      rw [Bool.and_eq_false_iff]
      right
      rw [show L = 0 by omega]
      rfl
    rw [eb, bI_f, if_pos rfl, hn (fun q => h1 q.1)]
theorem IoI.tx {Y : Sm} (h : IoI Y) : ∃ (L : Nat) (B : Nat → Nat), L ≤ 500 ∧ gI Y.1 1 0 1 = nI L ∧ gI Y.1 48 0 23 = nI L ∧ ∀ j, j < L → B j < 256 ∧ gI Y.1 2 0 j = sb (B j) ∧ gI Y.1 60 0 j = sb (B j) := by
  obtain ⟨L, hL, h1, h2, h3⟩ := h
  have : ∀ j, ∃ n, j < L → n < 256 ∧ gI Y.1 2 0 j = sb n ∧ gI Y.1 60 0 j = sb n := fun j => by
    by_cases c : j < L
    · obtain ⟨b, e1, e2⟩ := h3 j c
      obtain ⟨n, hn, e⟩ := i8_ex b
      exact ⟨n, fun _ => ⟨hn, e1.trans e, e2.trans e⟩⟩
    · exact ⟨0, fun q => absurd q c⟩
  obtain ⟨B, hB⟩ := Classical.axiomOfChoice this
  exact ⟨L, B, hL, h1, h2, hB⟩
theorem ok_6 {Y : Sm} {c : Nat} (a : Int32) (h : RR Y c) : Sok (fn_110 a) (fn_295 a) Y c := by
  obtain ⟨P, tu, ro, u, pos, b, h⟩ := h
  have h3 := h.1.a8
  obtain ⟨hN1, hN2⟩ := h.2.2.2.2.2
  obtain ⟨hII, hE, hO⟩ := h.2.2.2.2.1
  obtain ⟨L, B, hL, i1, i2, i3⟩ := hII.tx
  have hT : Tx Y L B := ⟨hL, i1, fun j hj => ⟨(i3 j hj).1, (i3 j hj).2.1⟩⟩
  have e5 : gI Y.1 5 (Y.2 0) 0 = nI P.1 := h.cp.1.1
  have e53 : gI Y.1 5 (Y.2 0) 3 = nI P.2.1 := h.cp.1.2
  have e295 := fun v hy hn => r_295 (W := sI Y 1 0 1 (nI 0)) (P := P) (L := L) (B := B) (v := v) (h.1.1.cg (fun x _ _ => by rw [gI_sIk (by omega)]) (by rw [gI_sIk (by omega)])) a hL (by rw [gI_sIk (by omega)]; exact i2) (fun j hj => ⟨(i3 j hj).1, by rw [gI_sIk (by omega)]; exact (i3 j hj).2.2⟩) hy hn
  have key : ∀ x : Int64, fn_22 Y = some (x, Y) → fn_110 a Y = some (fdS a P (fun k => decide (gJ Y.1 6 (Y.2 0) k = x)) (fun k => decide (gJ Y.1 8 (Y.2 0) k = x)), sI Y 1 0 1 (nI 0)) := fun x hx => by
    unfold fn_110 fdS
    have x0 : (sI Y 1 0 1 (nI 0)).2 0 = Y.2 0 := rfl
    rw [hx, bd_t, wr_t, x0, c_56 (n := P.1) _ (by rw [gI_sIk (by omega)]; exact e5) (by omega), c_57 (n := P.2.1) _ (by rw [gI_sIk (by omega)]; exact e53) (by omega), bd_t, bd_t]
    by_cases c : a = nI 0
    · rw [if_pos c, if_pos c]; rfl
    · rw [if_neg c, if_neg c]; rfl
  have both : ∃ v, fn_110 a Y = some (v, sI Y 1 0 1 (nI 0)) ∧ fn_295 a (sI Y 1 0 1 (nI 0)) = some (v, sI (sI (sI Y 1 0 1 (nI 0)) 48 0 0 (nI 0)) 48 0 23 (nI 0)) := by
    by_cases hA : Aln L B
    · have hw : NmR (nL (n256 (wl B 0 L))) (nL (n32 (wl B 0 L))) := ⟨_, wl_Wd hA.1 hA.2.1 hA.wd, rfl, rfl⟩
      have q := key _ (c_22y hT hA)
      unfold fdS at q
      rw [srs_cg (fun k hk => decide_eq_decide.mpr ((hN1 k hk).eq hw)), srs_cg (fun k hk => decide_eq_decide.mpr ((hN2 k hk).eq hw))] at q
      exact ⟨_, q, e295 _ (fun _ => rfl) (fun q => absurd hA q)⟩
    · have q := key _ (c_22n hT hA)
      unfold fdS at q
      rw [srs_no (fun k hk => decide_eq_false (hN1 k hk).ne), srs_no (fun k hk => decide_eq_false (hN2 k hk).ne), ite_self] at q
      exact ⟨_, q, e295 _ (fun q => absurd q hA) (fun _ => rfl)⟩
  obtain ⟨v, e110, e295⟩ := both
  refine ⟨_, _, _, e110, e295, by rw [gI_sIk (by omega)], by rw [gI_sIk (by omega), gI_sIk (by omega), gI_sIk (by omega)], P, tu, ro, u, pos, b, ?_⟩
  refine R6.up (c := c) (c' := c + 1) ?_ (by omega)
  refine h.io rfl (fun k' i hk' => ⟨?_, rfl⟩) ?_ (fun x hx => ?_) ⟨⟨0, by omega, ?_, ?_, fun j hj => by omega⟩, ?_, ?_⟩
  · simp only [List.mem_cons, List.mem_nil_iff, or_false, not_or] at hk'
    rw [gI_sIk (by omega), gI_sIk (by omega), gI_sIk (by omega)]
  · rw [gI_sIk (by omega), gI_sIk (by omega), gI_sIk (by omega)]
  · rw [gI_sIv, upd_ne (by omega), gI_sIv, upd_ne (by omega), gI_sIk (by omega)]
  · rw [gI_sIk (by omega), gI_sIk (by omega), gI_sIv, upd_at]
  · rw [gI_sIv, upd_at]
  · unfold IoE
    simp (disch := omega) only [gI_sIk, gI_sIv, upd_ne]
    exact hE
  · unfold IoO
    simp (disch := omega) only [gI_sIk, gI_sIv, upd_ne]
    exact hO
