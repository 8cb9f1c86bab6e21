/-! numbers and names are read -/
def SD (d k i : Nat) : Prop := k ∈ [3, 4] ∨ (i = d ∧ k ∈ [5, 6, 7, 8, 9, 10, 11, 12, 14, 15, 16, 17, 18, 19])
def FrW (W Z : Sm) : Prop := Z.2 = W.2 ∧ (∀ k i, ¬ k ∈ [48, 53, 61, 62, 63, 64] → gI Z.1 k i = gI W.1 k i ∧ gJ Z.1 k i = gJ W.1 k i) ∧ ∀ x, ¬ (25 ≤ x ∧ x ≤ 35) → gI Z.1 48 0 x = gI W.1 48 0 x
theorem FrW.rf {W : Sm} : FrW W W := ⟨rfl, fun _ _ _ => ⟨rfl, rfl⟩, fun _ _ => rfl⟩
theorem FrW.tr {W X Z : Sm} (h : FrW W X) (h2 : FrW X Z) : FrW W Z := ⟨h2.1.trans h.1, fun k i hk => ⟨(h2.2.1 k i hk).1.trans (h.2.1 k i hk).1, (h2.2.1 k i hk).2.trans (h.2.1 k i hk).2⟩, fun x hx => (h2.2.2 x hx).trans (h.2.2 x hx)⟩
theorem FrT.w {W Z : Sm} (h : FrT W Z) : FrW W Z := ⟨h.1, fun k i hk => h.2.1 k i (fun q => hk (by rw [q]; decide)), fun x hx => h.2.2 x (by omega)⟩
theorem FrW.s48 {W : Sm} {x : Nat} {v : Int32} (hx : 25 ≤ x ∧ x ≤ 35) : FrW W (sI W 48 0 x v) := ⟨rfl, fun k i hk => ⟨by rw [gI_sIk (fun q => hk (by rw [q]; decide))], rfl⟩, fun y hy => by rw [gI_sIv, upd_ne (fun q => hy (by rw [q]; exact hx))]⟩
theorem FrW.sk {W : Sm} {k i x : Nat} {v : Int32} (hk : k ∈ [53, 61, 62, 63, 64]) : FrW W (sI W k i x v) := ⟨rfl, fun k' i' hk' => ⟨by rw [gI_sIk (fun q => hk' (by rw [q]; exact List.mem_cons_of_mem _ hk))], rfl⟩, fun y hy => by rw [gI_sIk (fun q => by rw [← q] at hk; exact absurd hk (by decide))]⟩
theorem FrW.sj {W : Sm} {k i x : Nat} {v : Int64} (hk : k ∈ [53, 61, 62, 63, 64]) : FrW W (sJ W k i x v) := ⟨rfl, fun k' i' hk' => ⟨rfl, by
  funext j
  rw [gJ_sJ, if_neg (fun q => hk' (by rw [q.1]; exact List.mem_cons_of_mem _ hk))]⟩, fun y hy => rfl⟩
/-- an error is noted -/
def erC (X : Sm) (e : Int32) : Sm := sI (sI X 3 0 3 e) 3 0 4 (gI X.1 4 0 2)
def erM (W : Sm) (e : Int32) : Sm := sI (sI W 48 0 31 e) 48 0 32 (gI W.1 48 0 26)
theorem c_60 {X : Sm} (a : Int32) : fn_60 a X = some (nI 0, erC X a) := by
  unfold fn_60 erC
  rw [wr_t, gI_sIk (by omega), wr_t]
theorem erC_3 {X : Sm} {e : Int32} : gI (erC X e).1 3 0 3 = e := by
  unfold erC
  rw [gI_sIv, upd_ne (by omega), gI_sIv, upd_at]
theorem erC_4 {X : Sm} {e : Int32} : gI (erC X e).1 3 0 4 = gI X.1 4 0 2 := by
  unfold erC
  rw [gI_sIv, upd_at]
theorem erC_f {X : Sm} {d : Nat} {e : Int32} : Fr (SD d) X (erC X e) := by
  have m : SD d 3 0 := Or.inl (by decide)
  exact (Fr.sI m).tr (Fr.sI m)
theorem erM_31 {W : Sm} {e : Int32} : gI (erM W e).1 48 0 31 = e := by
  unfold erM
  rw [gI_sIv, upd_ne (by omega), gI_sIv, upd_at]
theorem erM_32 {W : Sm} {e : Int32} : gI (erM W e).1 48 0 32 = gI W.1 48 0 26 := by
  unfold erM
  rw [gI_sIv, upd_at]
theorem erM_f {W : Sm} {e : Int32} : FrW W (erM W e) := (FrW.s48 (by omega)).tr (FrW.s48 (by omega))
theorem erM_ne {W : Sm} {e : Nat} (h : 1 ≤ e) (h2 : e ≤ 5) : gI (erM W (nI e)).1 48 0 31 ≠ nI 0 := by
  rw [erM_31]
  exact fun q => by have := (nI_eq (by omega) (by omega)).mp q; omega
theorem r_need {W : Sm} {b : Bool} {e : Nat} (h : gI W.1 48 0 31 = nI 0) : fn_277 (bI b) (nI e) W = some ((), cond b W (erM W (nI e))) := by
  cases b with
  | true => rw [bI_t, r_needs, cnd_t]
  | false => rw [bI_f, r_needs0 h, cnd_f]; rfl
/-- both sides took the token at s -/
def Nxt (L : Nat) (B : Nat → Nat) (s : Nat) (X W Z Z2 : Sm) : Prop := Fr (KS [4]) X Z ∧ FrT W Z2 ∧ TkC Z L B (nxt L B s) ∧ TkM Z2 L B (nxt L B s)
theorem r_281b {W : Sm} {lo hi : Int32} (h : gI W.1 48 0 31 ≠ nI 0) : fn_281 lo hi W = some (gI W.1 48 0 29, W) := by
  have k : ∀ t, fn_281_J14 lo hi t W = some (gI W.1 48 0 29, W) := fun t => by
    unfold fn_281_J14
    rw [r_needsb h, bd_t, r_bad h, bd_t, if_pos rfl, r_goOnb h, bd_t]
  unfold fn_281
  by_cases c : gI W.1 48 0 27 = nI 2
  · rw [if_pos c, k]
  · rw [if_neg c, k]
theorem nu_read {X W : Sm} {L s lo hi : Nat} {B : Nat → Nat} (hX : TkC X L B s) (hW : TkM W L B s) (h0 : gI W.1 48 0 31 = nI 0) (hh : hi < 1000) (hlo : lo < 1000) : (∃ x Z Z2, lo ≤ x ∧ x ≤ hi ∧ fn_69 (nI lo) (nI hi) X = some (nI x, Z) ∧ fn_281 (nI lo) (nI hi) W = some (nI x, Z2) ∧ Nxt L B s X W Z Z2) ∨ ∃ e v, 1 ≤ e ∧ e ≤ 5 ∧ fn_69 (nI lo) (nI hi) X = some ((-1 : Int32), erC X (nI e)) ∧ fn_281 (nI lo) (nI hi) W = some (v, erM W (nI e)) := by
  have hr := krS_lt L B s
  cases hn : nub L B s with
  | false =>
    refine Or.inr ⟨1, gI (erM W (nI 1)).1 48 0 29, by omega, by omega, ?_, ?_⟩
    · unfold fn_69
      rw [c_nu hX, hn, bd_t, bI_f, if_pos rfl, c_60, bd_t]
    · have e2 : gI W.1 48 0 27 ≠ nI 2 := fun q => by
        rw [hW.2.2.2.2.1] at q
        rw [nub_iff.mpr ((nI_eq (by omega) (by omega)).mp q)] at hn
        cases hn
      have nb := erM_ne (W := W) (e := 1) (by omega) (by omega)
      unfold fn_281
      rw [if_neg e2]
      unfold fn_281_J14
      have := r_need (W := W) (b := false) (e := 1) h0
      rw [bI_f, cnd_f] at this
      rw [this, bd_t, r_bad nb, bd_t, if_pos rfl, r_goOnb nb, bd_t]
  | true =>
    have hv := nuV_lt hn
    have e27 : gI W.1 48 0 27 = nI 2 := by rw [hW.2.2.2.2.1, nub_iff.mp hn]
    have e29 : gI W.1 48 0 29 = nI (nuV L B s) := hW.2.2.2.2.2.2 (nub_iff.mp hn)
    have r0 : fn_281 (nI lo) (nI hi) W = (bd (fn_277 (bI (decide (lo ≤ nuV L B s ∧ nuV L B s ≤ hi))) (nI 2) W) fun _ Y11 => bd (fn_278 Y11) fun _ Y13 => some ((gI Y11.1 48 0 29), Y13)) := by
      unfold fn_281
      rw [if_pos e27]
      unfold fn_281_J14
      rw [r_needs, bd_t, r_fine h0, bd_t, if_neg (by decide), e29, r_isIn, rng (by omega) (by omega) (by omega), bd_t]
    have c0 : fn_69 (nI lo) (nI hi) X = (if nI (nuV L B s) < nI lo then bd (fn_60 (nI 2) X) fun v9 Y7 => some ((-1 : Int32), Y7) else (if nI (nuV L B s) ≤ nI hi then bd (fn_95 X) fun _ Y10 => some (nI (nuV L B s), Y10) else bd (fn_60 (nI 2) X) fun v14 Y12 => some ((-1 : Int32), Y12))) := by
      unfold fn_69
      rw [c_nu hX, hn, bd_t, bI_t, if_neg (by decide), c_va hX hn, bd_t]
    rw [r0, c0, r_need h0, bd_t]
    by_cases c : lo ≤ nuV L B s ∧ nuV L B s ≤ hi
    · obtain ⟨Z, eZ, fZ, tZ⟩ := c_next hX
      obtain ⟨Z2, eZ2, fZ2, tZ2⟩ := r_goOn hW h0
      refine Or.inl ⟨nuV L B s, Z, Z2, c.1, c.2, ?_, ?_, fZ, fZ2, tZ, tZ2⟩
      · rw [iteI_lt_f c.1 (by omega), iteI_le_t c.2 (by omega), eZ, bd_t]
      · rw [decide_eq_true c, cnd_t, eZ2, bd_t, e29]
    · have nb := erM_ne (W := W) (e := 2) (by omega) (by omega)
      refine Or.inr ⟨2, gI (erM W (nI 2)).1 48 0 29, by omega, by omega, ?_, ?_⟩
      · rw [c_60, bd_t]
        by_cases d : nuV L B s < lo
        · rw [iteI_lt_t d (by omega)]
        · rw [iteI_lt_f (by omega) (by omega), iteI_le_f (by omega) (by omega)]
      · rw [decide_eq_false c, cnd_f, r_goOnb nb, bd_t]
theorem r_283_63 {W : Sm} {L s n : Nat} {B : Nat → Nat} (hW : TkM W L B s) (h0 : gI W.1 48 0 31 = nI 0) (hn : n ≤ 5) : (nmb L B s = false → ∃ v, fn_283_48_63 (nI n) W = some (v, erM W (nI 1))) ∧ (nmb L B s = true → (sres (fun k => decide (gJ W.1 63 0 k = nmM L B s)) n ≠ (-1 : Int32) → ∃ v, fn_283_48_63 (nI n) W = some (v, erM W (nI 3))) ∧ (sres (fun k => decide (gJ W.1 63 0 k = nmM L B s)) n = (-1 : Int32) → ∃ Z, fn_283_48_63 (nI n) W = some (nmM L B s, Z) ∧ FrT W Z ∧ TkM Z L B (nxt L B s))) := by
  have nb1 := erM_ne (W := W) (e := 1) (by omega) (by omega)
  have nb3 := erM_ne (W := W) (e := 3) (by omega) (by omega)
  unfold fn_283_48_63
  rw [r_nm1 hW, bd_t, r_need h0, bd_t]
  refine ⟨fun h => ?_, fun h => ?_⟩
  · rw [h, cnd_f, r_bad nb1, bd_t, if_pos rfl, r_goOnb nb1, bd_t]
    exact ⟨_, rfl⟩
  · obtain ⟨k1, k2, _⟩ := nmb_iff.mp h
    have e30 : gJ W.1 48 0 30 = nmM L B s := by
      rw [(hW.2.2.2.2.2.1 k1).2]
      unfold nmM
      rw [show min (edS L B s - s) 6 = edS L B s - s by omega]
    rw [h, cnd_t, r_fine h0, bd_t, if_neg (by decide), e30, r_282_63 _ hn, bd_t]
    refine ⟨fun q => ?_, fun q => ?_⟩
    · rw [if_neg q]
      unfold fn_283_48_63_J35
      have := r_need (W := W) (b := false) (e := 3) h0
      rw [bI_f, cnd_f] at this
      rw [this, bd_t, r_goOnb nb3, bd_t]
      exact ⟨_, rfl⟩
    · obtain ⟨Z2, eZ2, fZ2, tZ2⟩ := r_goOn hW h0
      rw [if_pos q]
      unfold fn_283_48_63_J35
      rw [r_needs, bd_t, eZ2, bd_t, e30]
      exact ⟨Z2, rfl, fZ2, tZ2⟩
theorem r_283_63b {W : Sm} {a : Int32} (h : gI W.1 48 0 31 ≠ nI 0) : fn_283_48_63 a W = some (gJ W.1 48 0 30, W) := by
  obtain ⟨v, e⟩ := r_nmx (W := W)
  unfold fn_283_48_63
  rw [e, bd_t, r_needsb h, bd_t, r_bad h, bd_t, if_pos rfl, r_goOnb h, bd_t]
theorem r_284_63 {W : Sm} {L s n : Nat} {B : Nat → Nat} (hW : TkM W L B s) (h0 : gI W.1 48 0 31 = nI 0) (hn : n ≤ 5) : (nmb L B s = false → ∃ v, fn_284_48_63 (nI n) W = some (v, erM W (nI 1))) ∧ (nmb L B s = true → (sres (fun k => decide (gJ W.1 63 0 k = nmM L B s)) n = (-1 : Int32) → ∃ v, fn_284_48_63 (nI n) W = some (v, erM W (nI 3))) ∧ (sres (fun k => decide (gJ W.1 63 0 k = nmM L B s)) n ≠ (-1 : Int32) → ∃ Z, fn_284_48_63 (nI n) W = some (sres (fun k => decide (gJ W.1 63 0 k = nmM L B s)) n, Z) ∧ FrT W Z ∧ TkM Z L B (nxt L B s))) := by
  have nb1 := erM_ne (W := W) (e := 1) (by omega) (by omega)
  have nb3 := erM_ne (W := W) (e := 3) (by omega) (by omega)
  unfold fn_284_48_63
  rw [r_nm1 hW, bd_t, r_need h0, bd_t]
  refine ⟨fun h => ?_, fun h => ?_⟩
  · rw [h, cnd_f, r_282_63 _ hn, bd_t, r_bad nb1, bd_t, if_pos rfl, r_goOnb nb1, bd_t]
    exact ⟨_, rfl⟩
  · obtain ⟨k1, k2, _⟩ := nmb_iff.mp h
    have e30 : gJ W.1 48 0 30 = nmM L B s := by
      rw [(hW.2.2.2.2.2.1 k1).2]
      unfold nmM
      rw [show min (edS L B s - s) 6 = edS L B s - s by omega]
    rw [h, cnd_t, e30, r_282_63 _ hn, bd_t, r_fine h0, bd_t, if_neg (by decide)]
    refine ⟨fun q => ?_, fun q => ?_⟩
    · have := r_need (W := W) (b := false) (e := 3) h0
      rw [bI_f, cnd_f] at this
      rw [if_pos q, this, bd_t, r_goOnb nb3, bd_t]
      exact ⟨_, rfl⟩
    · obtain ⟨Z2, eZ2, fZ2, tZ2⟩ := r_goOn hW h0
      rw [if_neg q, r_needs, bd_t, eZ2, bd_t]
      exact ⟨Z2, rfl, fZ2, tZ2⟩
theorem r_284_63b {W : Sm} {n : Nat} (h : gI W.1 48 0 31 ≠ nI 0) (hn : n ≤ 5) : ∃ v, fn_284_48_63 (nI n) W = some (v, W) := by
  obtain ⟨v, e⟩ := r_nmx (W := W)
  unfold fn_284_48_63
  rw [e, bd_t, r_needsb h, bd_t, r_282_63 _ hn, bd_t, r_bad h, bd_t, if_pos rfl, r_goOnb h, bd_t]
  exact ⟨_, rfl⟩
theorem r_283_64 {W : Sm} {L s n : Nat} {B : Nat → Nat} (hW : TkM W L B s) (h0 : gI W.1 48 0 31 = nI 0) (hn : n ≤ 8) : (nmb L B s = false → ∃ v, fn_283_48_64 (nI n) W = some (v, erM W (nI 1))) ∧ (nmb L B s = true → (sres (fun k => decide (gJ W.1 64 0 k = nmM L B s)) n ≠ (-1 : Int32) → ∃ v, fn_283_48_64 (nI n) W = some (v, erM W (nI 3))) ∧ (sres (fun k => decide (gJ W.1 64 0 k = nmM L B s)) n = (-1 : Int32) → ∃ Z, fn_283_48_64 (nI n) W = some (nmM L B s, Z) ∧ FrT W Z ∧ TkM Z L B (nxt L B s))) := by
  have nb1 := erM_ne (W := W) (e := 1) (by omega) (by omega)
  have nb3 := erM_ne (W := W) (e := 3) (by omega) (by omega)
  unfold fn_283_48_64
  rw [r_nm1 hW, bd_t, r_need h0, bd_t]
  refine ⟨fun h => ?_, fun h => ?_⟩
  · rw [h, cnd_f, r_bad nb1, bd_t, if_pos rfl, r_goOnb nb1, bd_t]
    exact ⟨_, rfl⟩
  · obtain ⟨k1, k2, _⟩ := nmb_iff.mp h
    have e30 : gJ W.1 48 0 30 = nmM L B s := by
      rw [(hW.2.2.2.2.2.1 k1).2]
      unfold nmM
      rw [show min (edS L B s - s) 6 = edS L B s - s by omega]
    rw [h, cnd_t, r_fine h0, bd_t, if_neg (by decide), e30, r_282_64 _ hn, bd_t]
    refine ⟨fun q => ?_, fun q => ?_⟩
    · rw [if_neg q]
      unfold fn_283_48_64_J35
      have := r_need (W := W) (b := false) (e := 3) h0
      rw [bI_f, cnd_f] at this
      rw [this, bd_t, r_goOnb nb3, bd_t]
      exact ⟨_, rfl⟩
    · obtain ⟨Z2, eZ2, fZ2, tZ2⟩ := r_goOn hW h0
      rw [if_pos q]
      unfold fn_283_48_64_J35
      rw [r_needs, bd_t, eZ2, bd_t, e30]
      exact ⟨Z2, rfl, fZ2, tZ2⟩
theorem r_283_64b {W : Sm} {a : Int32} (h : gI W.1 48 0 31 ≠ nI 0) : fn_283_48_64 a W = some (gJ W.1 48 0 30, W) := by
  obtain ⟨v, e⟩ := r_nmx (W := W)
  unfold fn_283_48_64
  rw [e, bd_t, r_needsb h, bd_t, r_bad h, bd_t, if_pos rfl, r_goOnb h, bd_t]
theorem r_284_64 {W : Sm} {L s n : Nat} {B : Nat → Nat} (hW : TkM W L B s) (h0 : gI W.1 48 0 31 = nI 0) (hn : n ≤ 8) : (nmb L B s = false → ∃ v, fn_284_48_64 (nI n) W = some (v, erM W (nI 1))) ∧ (nmb L B s = true → (sres (fun k => decide (gJ W.1 64 0 k = nmM L B s)) n = (-1 : Int32) → ∃ v, fn_284_48_64 (nI n) W = some (v, erM W (nI 3))) ∧ (sres (fun k => decide (gJ W.1 64 0 k = nmM L B s)) n ≠ (-1 : Int32) → ∃ Z, fn_284_48_64 (nI n) W = some (sres (fun k => decide (gJ W.1 64 0 k = nmM L B s)) n, Z) ∧ FrT W Z ∧ TkM Z L B (nxt L B s))) := by
  have nb1 := erM_ne (W := W) (e := 1) (by omega) (by omega)
  have nb3 := erM_ne (W := W) (e := 3) (by omega) (by omega)
  unfold fn_284_48_64
  rw [r_nm1 hW, bd_t, r_need h0, bd_t]
  refine ⟨fun h => ?_, fun h => ?_⟩
  · rw [h, cnd_f, r_282_64 _ hn, bd_t, r_bad nb1, bd_t, if_pos rfl, r_goOnb nb1, bd_t]
    exact ⟨_, rfl⟩
  · obtain ⟨k1, k2, _⟩ := nmb_iff.mp h
    have e30 : gJ W.1 48 0 30 = nmM L B s := by
      rw [(hW.2.2.2.2.2.1 k1).2]
      unfold nmM
      rw [show min (edS L B s - s) 6 = edS L B s - s by omega]
    rw [h, cnd_t, e30, r_282_64 _ hn, bd_t, r_fine h0, bd_t, if_neg (by decide)]
    refine ⟨fun q => ?_, fun q => ?_⟩
    · have := r_need (W := W) (b := false) (e := 3) h0
      rw [bI_f, cnd_f] at this
      rw [if_pos q, this, bd_t, r_goOnb nb3, bd_t]
      exact ⟨_, rfl⟩
    · obtain ⟨Z2, eZ2, fZ2, tZ2⟩ := r_goOn hW h0
      rw [if_neg q, r_needs, bd_t, eZ2, bd_t]
      exact ⟨Z2, rfl, fZ2, tZ2⟩
theorem r_284_64b {W : Sm} {n : Nat} (h : gI W.1 48 0 31 ≠ nI 0) (hn : n ≤ 8) : ∃ v, fn_284_48_64 (nI n) W = some (v, W) := by
  obtain ⟨v, e⟩ := r_nmx (W := W)
  unfold fn_284_48_64
  rw [e, bd_t, r_needsb h, bd_t, r_282_64 _ hn, bd_t, r_bad h, bd_t, if_pos rfl, r_goOnb h, bd_t]
  exact ⟨_, rfl⟩
