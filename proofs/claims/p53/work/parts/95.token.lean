/-! the tokens of the text -/
def isBl (n : Nat) : Bool := Nat.beq n 32 || Nat.beq n 10
def rn (L : Nat) (B : Nat → Nat) (q : Nat → Bool) (p : Nat) : Nat := p + srch (fun i => !q (B (p + i))) (L - p)
theorem not_t {b : Bool} (h : (!b) = false) : b = true := by cases b with | true => rfl | false => cases h
theorem not_f {b : Bool} (h : (!b) = true) : b = false := by cases b with | false => rfl | true => cases h
theorem rn_le {L p : Nat} {B : Nat → Nat} {q : Nat → Bool} (h : p ≤ L) : rn L B q p ≤ L := by
  have := srch_le (fun i => !q (B (p + i))) (L - p)
  unfold rn
  omega
theorem rn_ge {L p : Nat} {B : Nat → Nat} {q : Nat → Bool} : p ≤ rn L B q p := by unfold rn; omega
theorem rn_in {L p i : Nat} {B : Nat → Nat} {q : Nat → Bool} (h1 : p ≤ i) (h2 : i < rn L B q p) : q (B i) = true := by
  unfold rn at h2
  have := srch_no (p := fun i => !q (B (p + i))) (n := L - p) (j := i - p) (by omega)
  simp only [show p + (i - p) = i by omega] at this
  exact not_t this
theorem rn_at {L p : Nat} {B : Nat → Nat} {q : Nat → Bool} (h : rn L B q p < L) : q (B (rn L B q p)) = false := by
  unfold rn at h ⊢
  exact not_f (srch_yes (p := fun i => !q (B (p + i))) (n := L - p) (by omega))
theorem rn_gt {L p : Nat} {B : Nat → Nat} {q : Nat → Bool} (h : p < L) (hq : q (B p) = true) : p < rn L B q p := by
  rcases Nat.lt_or_ge p (rn L B q p) with c | c
  · exact c
  · have e : rn L B q p = p := Nat.le_antisymm c rn_ge
    have := rn_at (B := B) (q := q) (p := p) (L := L) (by omega)
    rw [e, hq] at this
    cases this
/-- kind and end of the token that begins at s -/
def kdS (L : Nat) (B : Nat → Nat) (s : Nat) : Nat := if s < L then (if ltA (B s) = true then 1 else if dgA (B s) = true then 2 else if B s = 59 then 3 else 4) else 0
def edS (L : Nat) (B : Nat → Nat) (s : Nat) : Nat := if s < L then (if ltA (B s) = true then rn L B ltA s else if dgA (B s) = true then rn L B dgA s else s + 1) else s
theorem edS_le {L s : Nat} {B : Nat → Nat} (h : s ≤ L) : edS L B s ≤ L := by
  unfold edS
  by_cases c : s < L
  · rw [if_pos c]
    by_cases d : ltA (B s) = true
    · rw [if_pos d]; exact rn_le h
    · rw [if_neg d]
      by_cases e : dgA (B s) = true
      · rw [if_pos e]; exact rn_le h
      · rw [if_neg e]; omega
  · rw [if_neg c]; exact h
theorem c_21 {Y : Sm} {L i : Nat} {B : Nat → Nat} (h : Tx Y L B) (hi : i < L) : fn_21 (nI i) Y = some (bI (isBl (B i)), Y) := by
  have := (h.2.2 i hi).1
  unfold fn_21 isBl
  rw [c_18 h hi, bd_t]
  by_cases c : B i = 32
  · rw [c, if_pos rfl]; rfl
  · rw [if_neg (fun q => c ((nI_eq (by omega) (by omega)).mp q)), beq_ne c]
    by_cases d : B i = 10
    · rw [d, if_pos rfl]; rfl
    · rw [if_neg (fun q => d ((nI_eq (by omega) (by omega)).mp q)), beq_ne d]; rfl
theorem c_95 {X : Sm} {L p : Nat} {B : Nat → Nat} (h : Tx X L B) (hp : p ≤ L) (e3 : gI X.1 4 0 3 = nI p) : ∃ Z, fn_95 X = some ((), Z) ∧ Fr (KS [4]) X Z ∧ gI Z.1 4 0 1 = nI (kdS L B (rn L B isBl p)) ∧ gI Z.1 4 0 2 = nI (rn L B isBl p) ∧ gI Z.1 4 0 3 = nI (edS L B (rn L B isBl p)) := by
  have hL := h.1
  have hs := rn_le (B := B) (q := isBl) hp
  have hs1 := rn_ge (L := L) (B := B) (q := isBl) (p := p)
  have k4 : ∀ Y, Fr (KS [4]) X Y → Tx Y L B := fun Y hF => h.cg (by rw [hF.gI (by unfold KS; decide)]) (hF.gI (by unfold KS; decide))
  have m4 : KS [4] 4 0 := by unfold KS; decide
  -- the blanks
  have b1 : ∃ Z, lp (fun s => fn_95_L8 s) FU (sI X 4 0 2 (nI p)) = some (.inl Z) ∧ Fr (KS [4]) X Z ∧ gI Z.1 4 0 2 = nI (rn L B isBl p) := by
    have key := Ok_lp (F := fun s => fn_95_L8 s) (Q := fun x => ∃ Z, x = .inl Z ∧ Fr (KS [4]) X Z ∧ gI Z.1 4 0 2 = nI (rn L B isBl p)) (fun j s => Fr (KS [4]) X s ∧ gI s.1 4 0 2 = nI (p + j)) (rn L B isBl p - p) (N := FU) (FU_lt (by omega)) (s := sI X 4 0 2 (nI p)) ?_ ?_ ?_
    · obtain ⟨x, ex, Z, rfl, hZ⟩ := key
      exact ⟨Z, ex, hZ⟩
    · rintro j s hj ⟨hF, e2⟩
      have hT := k4 s hF
      refine ⟨.inl (sI s 4 0 2 (nI (p + (j + 1)))), ?_, hF.tr (Fr.sI m4), by rw [gI_sIv, upd_at]⟩
      simp only [fn_95_L8]
      rw [e2, hT.2.1, iteI_le_f (by omega) (by omega), c_21 hT (by omega), rn_in (q := isBl) (p := p) (L := L) (by omega) (by omega), bd_t, bI_t, if_neg (by decide), e2, wr_t, nI_add]
      rfl
    · rintro s ⟨hF, e2⟩
      have hT := k4 s hF
      rw [show p + (rn L B isBl p - p) = rn L B isBl p by omega] at e2
      refine ⟨.inr (.inl s), ?_, s, rfl, hF, e2⟩
      simp only [fn_95_L8]
      rw [e2, hT.2.1]
      by_cases c : rn L B isBl p < L
      · rw [iteI_le_f c (by omega), c_21 hT c, rn_at c, bd_t, bI_f, if_pos rfl]
      · rw [iteI_le_t (by omega) (by omega)]
    · exact ⟨Fr.sI m4, by rw [gI_sIv, upd_at]; rfl⟩
  obtain ⟨Z1, e1, f1, g1⟩ := b1
  unfold fn_95
  rw [e3, wr_t, e1, exd_l]
  unfold fn_95_J49
  rw [g1, wr_t]
  generalize hZ2 : sI Z1 4 0 3 (nI (rn L B isBl p)) = Z2
  have f2 : Fr (KS [4]) X Z2 := by rw [← hZ2]; exact f1.tr (Fr.sI m4)
  have g22 : gI Z2.1 4 0 2 = nI (rn L B isBl p) := by rw [← hZ2, gI_sIv, upd_ne (by omega)]; exact g1
  have g23 : gI Z2.1 4 0 3 = nI (rn L B isBl p) := by rw [← hZ2, gI_sIv, upd_at]
  have hT2 := k4 Z2 f2
  generalize hs0 : rn L B isBl p = s at *
  rw [g22, hT2.2.1]
  by_cases c : s < L
  · rw [iteI_lt_t c (by omega), c_19 hT2 c, bd_t, bI_0]
    cases hl : ltA (B s) with
    | true =>
      have ek : kdS L B s = 1 := by unfold kdS; rw [if_pos c, if_pos hl]
      have ee : edS L B s = rn L B ltA s := by unfold edS; rw [if_pos c, if_pos hl]
      have he := rn_le (B := B) (q := ltA) hs
      have he1 := rn_ge (L := L) (B := B) (q := ltA) (p := s)
      rw [cnd_t, wr_t, ek, ee]
      have key := Ok_lp (F := fun s => fn_95_L98 s) (Q := fun x => ∃ Z, x = ((), Z) ∧ Fr (KS [4]) X Z ∧ gI Z.1 4 0 1 = nI 1 ∧ gI Z.1 4 0 2 = nI s ∧ gI Z.1 4 0 3 = nI (rn L B ltA s)) (fun j y => Fr (KS [4]) X y ∧ gI y.1 4 0 1 = nI 1 ∧ gI y.1 4 0 2 = nI s ∧ gI y.1 4 0 3 = nI (s + j)) (rn L B ltA s - s) (N := FU) (FU_lt (by omega)) (s := sI Z2 4 0 1 (nI 1)) ?_ ?_ ?_
      · obtain ⟨x, ex, Z, rfl, hZ⟩ := key
        exact ⟨Z, ex, hZ⟩
      · rintro j y hj ⟨hF, q1, q2, q3⟩
        have hT := k4 y hF
        refine ⟨.inl (sI y 4 0 3 (nI (s + (j + 1)))), ?_, hF.tr (Fr.sI m4), by rw [gI_sIv, upd_ne (by omega)]; exact q1, by rw [gI_sIv, upd_ne (by omega)]; exact q2, by rw [gI_sIv, upd_at]⟩
        simp only [fn_95_L98]
        rw [q3, hT.2.1, iteI_le_f (by omega) (by omega), c_19 hT (by omega), rn_in (q := ltA) (p := s) (L := L) (by omega) (by omega), bd_t, bI_t, if_neg (by decide), q3, wr_t, nI_add]
        rfl
      · rintro y ⟨hF, q1, q2, q3⟩
        have hT := k4 y hF
        rw [show s + (rn L B ltA s - s) = rn L B ltA s by omega] at q3
        refine ⟨.inr ((), y), ?_, y, rfl, hF, q1, q2, q3⟩
        simp only [fn_95_L98]
        rw [q3, hT.2.1]
        by_cases d : rn L B ltA s < L
        · rw [iteI_le_f d (by omega), c_19 hT d, rn_at d, bd_t, bI_f, if_pos rfl]
        · rw [iteI_le_t (by omega) (by omega)]
      · exact ⟨f2.tr (Fr.sI m4), by rw [gI_sIv, upd_at], by rw [gI_sIv, upd_ne (by omega)]; exact g22, by rw [gI_sIv, upd_ne (by omega)]; exact g23⟩
    | false =>
      rw [cnd_f, g22, c_20 hT2 c, bd_t, bI_0]
      cases hd : dgA (B s) with
      | true =>
        have ek : kdS L B s = 2 := by unfold kdS; rw [if_pos c, hl, if_neg (by decide), if_pos hd]
        have ee : edS L B s = rn L B dgA s := by unfold edS; rw [if_pos c, hl, if_neg (by decide), if_pos hd]
        have he := rn_le (B := B) (q := dgA) hs
        have he1 := rn_ge (L := L) (B := B) (q := dgA) (p := s)
        rw [cnd_t, wr_t, ek, ee]
        have key := Ok_lp (F := fun s => fn_95_L158 s) (Q := fun x => ∃ Z, x = ((), Z) ∧ Fr (KS [4]) X Z ∧ gI Z.1 4 0 1 = nI 2 ∧ gI Z.1 4 0 2 = nI s ∧ gI Z.1 4 0 3 = nI (rn L B dgA s)) (fun j y => Fr (KS [4]) X y ∧ gI y.1 4 0 1 = nI 2 ∧ gI y.1 4 0 2 = nI s ∧ gI y.1 4 0 3 = nI (s + j)) (rn L B dgA s - s) (N := FU) (FU_lt (by omega)) (s := sI Z2 4 0 1 (nI 2)) ?_ ?_ ?_
        · obtain ⟨x, ex, Z, rfl, hZ⟩ := key
          exact ⟨Z, ex, hZ⟩
        · rintro j y hj ⟨hF, q1, q2, q3⟩
          have hT := k4 y hF
          refine ⟨.inl (sI y 4 0 3 (nI (s + (j + 1)))), ?_, hF.tr (Fr.sI m4), by rw [gI_sIv, upd_ne (by omega)]; exact q1, by rw [gI_sIv, upd_ne (by omega)]; exact q2, by rw [gI_sIv, upd_at]⟩
          simp only [fn_95_L158]
          rw [q3, hT.2.1, iteI_le_f (by omega) (by omega), c_20 hT (by omega), rn_in (q := dgA) (p := s) (L := L) (by omega) (by omega), bd_t, bI_t, if_neg (by decide), q3, wr_t, nI_add]
          rfl
        · rintro y ⟨hF, q1, q2, q3⟩
          have hT := k4 y hF
          rw [show s + (rn L B dgA s - s) = rn L B dgA s by omega] at q3
          refine ⟨.inr ((), y), ?_, y, rfl, hF, q1, q2, q3⟩
          simp only [fn_95_L158]
          rw [q3, hT.2.1]
          by_cases d : rn L B dgA s < L
          · rw [iteI_le_f d (by omega), c_20 hT d, rn_at d, bd_t, bI_f, if_pos rfl]
          · rw [iteI_le_t (by omega) (by omega)]
        · exact ⟨f2.tr (Fr.sI m4), by rw [gI_sIv, upd_at], by rw [gI_sIv, upd_ne (by omega)]; exact g22, by rw [gI_sIv, upd_ne (by omega)]; exact g23⟩
      | false =>
        have ee : edS L B s = s + 1 := by unfold edS; rw [if_pos c, hl, if_neg (by decide), hd, if_neg (by decide)]
        have h256 := (h.2.2 s c).1
        rw [cnd_f, g22, c_18 hT2 c, bd_t, ee]
        by_cases d : B s = 59
        · have ek : kdS L B s = 3 := by unfold kdS; rw [if_pos c, hl, if_neg (by decide), hd, if_neg (by decide), if_pos d]
          have y3 : gI (sI Z2 4 0 1 (nI 3)).1 4 0 3 = nI s := by rw [gI_sIv, upd_ne (by omega)]; exact g23
          refine ⟨sI (sI Z2 4 0 1 (nI 3)) 4 0 3 (nI (s + 1)), ?_, f2.tr ((Fr.sI m4).tr (Fr.sI m4)), ?_, ?_, by rw [gI_sIv, upd_at]⟩
          · rw [d, if_pos rfl, wr_t, y3, wr_t, nI_add]
          · rw [gI_sIv, upd_ne (by omega), gI_sIv, upd_at, ek]
          · rw [gI_sIv, upd_ne (by omega), gI_sIv, upd_ne (by omega)]; exact g22
        · have ek : kdS L B s = 4 := by unfold kdS; rw [if_pos c, hl, if_neg (by decide), hd, if_neg (by decide), if_neg d]
          have y3 : gI (sI Z2 4 0 1 (nI 4)).1 4 0 3 = nI s := by rw [gI_sIv, upd_ne (by omega)]; exact g23
          refine ⟨sI (sI Z2 4 0 1 (nI 4)) 4 0 3 (nI (s + 1)), ?_, f2.tr ((Fr.sI m4).tr (Fr.sI m4)), ?_, ?_, by rw [gI_sIv, upd_at]⟩
          · rw [if_neg (fun q => d ((nI_eq (by omega) (by omega)).mp q)), wr_t, y3, wr_t, nI_add]
          · rw [gI_sIv, upd_ne (by omega), gI_sIv, upd_at, ek]
          · rw [gI_sIv, upd_ne (by omega), gI_sIv, upd_ne (by omega)]; exact g22
  · have ek : kdS L B s = 0 := by unfold kdS; rw [if_neg c]
    have ee : edS L B s = s := by unfold edS; rw [if_neg c]
    rw [iteI_lt_f (by omega) (by omega), wr_t, ek, ee]
    exact ⟨_, rfl, f2.tr (Fr.sI m4), by rw [gI_sIv, upd_at], by rw [gI_sIv, upd_ne (by omega)]; exact g22, by rw [gI_sIv, upd_ne (by omega)]; exact g23⟩

