/-! what is asked of a token, on both sides -/
def nxt (L : Nat) (B : Nat → Nat) (s : Nat) : Nat := rn L B isBl (edS L B s)
def TkC (X : Sm) (L : Nat) (B : Nat → Nat) (s : Nat) : Prop := Tx X L B ∧ s ≤ L ∧ gI X.1 4 0 1 = nI (kdS L B s) ∧ gI X.1 4 0 2 = nI s ∧ gI X.1 4 0 3 = nI (edS L B s)
theorem nxt_le {L s : Nat} {B : Nat → Nat} (h : s ≤ L) : nxt L B s ≤ L := rn_le (edS_le h)
theorem TkC.cg {X Z : Sm} {L s : Nat} {B : Nat → Nat} (h : TkC X L B s) (h1 : gI Z.1 1 0 = gI X.1 1 0) (h2 : gI Z.1 2 0 = gI X.1 2 0) (h4 : gI Z.1 4 0 = gI X.1 4 0) : TkC Z L B s := by
  unfold TkC
  rw [h4]
  exact ⟨h.1.cg (by rw [h1]) h2, h.2⟩
theorem c_next {X : Sm} {L s : Nat} {B : Nat → Nat} (h : TkC X L B s) : ∃ Z, fn_95 X = some ((), Z) ∧ Fr (KS [4]) X Z ∧ TkC Z L B (nxt L B s) := by
  obtain ⟨hT, hs, e1, e2, e3⟩ := h
  obtain ⟨Z, eZ, fZ, z1, z2, z3⟩ := c_95 hT (edS_le hs) e3
  exact ⟨Z, eZ, fZ, hT.cg (by rw [fZ.gI (by unfold KS; decide)]) (fZ.gI (by unfold KS; decide)), nxt_le hs, z1, z2, z3⟩
theorem kdS_lt (L : Nat) (B : Nat → Nat) (s : Nat) : kdS L B s < 5 := by
  unfold kdS
  by_cases c : s < L
  · rw [if_pos c]
    by_cases d : ltA (B s) = true
    · rw [if_pos d]; omega
    · rw [if_neg d]
      by_cases e : dgA (B s) = true
      · rw [if_pos e]; omega
      · rw [if_neg e]
        by_cases f : B s = 59
        · rw [if_pos f]; omega
        · rw [if_neg f]; omega
  · rw [if_neg c]; omega
theorem krS_lt (L : Nat) (B : Nat → Nat) (s : Nat) : krS L B s < 5 := by
  have := kdS_lt L B s
  unfold krS
  by_cases c : kdS L B s = 2
  · rw [if_pos c]
    by_cases d : edS L B s - s ≤ 3
    · rw [if_pos d]; omega
    · rw [if_neg d]; omega
  · rw [if_neg c]; exact this
theorem krS_k {L s k : Nat} {B : Nat → Nat} (h2 : k ≠ 2) (h4 : k ≠ 4) : krS L B s = k ↔ kdS L B s = k := by
  unfold krS
  by_cases c : kdS L B s = 2
  · rw [if_pos c]
    by_cases d : edS L B s - s ≤ 3
    · rw [if_pos d]; omega
    · rw [if_neg d]; omega
  · rw [if_neg c]
theorem krS_2 {L s : Nat} {B : Nat → Nat} : krS L B s = 2 ↔ kdS L B s = 2 ∧ edS L B s - s ≤ 3 := by
  unfold krS
  by_cases c : kdS L B s = 2
  · rw [if_pos c]
    by_cases d : edS L B s - s ≤ 3
    · rw [if_pos d]; omega
    · rw [if_neg d]; omega
  · rw [if_neg c]; omega
theorem edS_ge {L s : Nat} {B : Nat → Nat} : s ≤ edS L B s := by
  unfold edS
  by_cases c : s < L
  · rw [if_pos c]
    by_cases d : ltA (B s) = true
    · rw [if_pos d]; exact rn_ge
    · rw [if_neg d]
      by_cases e : dgA (B s) = true
      · rw [if_pos e]; exact rn_ge
      · rw [if_neg e]; omega
  · rw [if_neg c]; exact Nat.le_refl _
theorem edS_gt {L s : Nat} {B : Nat → Nat} (h : s < L) : s < edS L B s := by
  unfold edS
  rw [if_pos h]
  by_cases d : ltA (B s) = true
  · rw [if_pos d]; exact rn_gt h d
  · rw [if_neg d]
    by_cases e : dgA (B s) = true
    · rw [if_pos e]; exact rn_gt h e
    · rw [if_neg e]; omega
theorem kd1 {L s : Nat} {B : Nat → Nat} (h : kdS L B s = 1) : s < L ∧ ∀ i, s ≤ i → i < edS L B s → ltA (B i) = true := by
  unfold kdS at h
  by_cases c : s < L
  · rw [if_pos c] at h
    by_cases d : ltA (B s) = true
    · refine ⟨c, fun i h1 h2 => ?_⟩
      unfold edS at h2
      rw [if_pos c, if_pos d] at h2
      exact rn_in h1 h2
    · rw [if_neg d] at h
      by_cases e : dgA (B s) = true
      · rw [if_pos e] at h; omega
      · rw [if_neg e] at h
        by_cases f : B s = 59
        · rw [if_pos f] at h; omega
        · rw [if_neg f] at h; omega
  · rw [if_neg c] at h; omega
theorem kd2 {L s : Nat} {B : Nat → Nat} (h : kdS L B s = 2) : s < L ∧ ∀ i, s ≤ i → i < edS L B s → dgA (B i) = true := by
  unfold kdS at h
  by_cases c : s < L
  · rw [if_pos c] at h
    by_cases d : ltA (B s) = true
    · rw [if_pos d] at h; omega
    · rw [if_neg d] at h
      by_cases e : dgA (B s) = true
      · refine ⟨c, fun i h1 h2 => ?_⟩
        unfold edS at h2
        rw [if_pos c, if_neg d, if_pos e] at h2
        exact rn_in h1 h2
      · rw [if_neg e] at h
        by_cases f : B s = 59
        · rw [if_pos f] at h; omega
        · rw [if_neg f] at h; omega
  · rw [if_neg c] at h; omega
/-- the word j; a name; a number -/
def wb (L : Nat) (B : Nat → Nat) (s j : Nat) : Bool := Nat.beq (kdS L B s) 1 && isW B s (edS L B s) j
def nmb (L : Nat) (B : Nat → Nat) (s : Nat) : Bool := Nat.beq (kdS L B s) 1 && (Nat.ble (edS L B s - s) 6 && decide (wd B s (edS L B s) = (-1 : Int32)))
def nub (L : Nat) (B : Nat → Nat) (s : Nat) : Bool := Nat.beq (krS L B s) 2
def nmC (L : Nat) (B : Nat → Nat) (s : Nat) : Int64 := nL (n256 (wl B s (edS L B s - s)))
def nuV (L : Nat) (B : Nat → Nat) (s : Nat) : Nat := dgV B s (edS L B s - s)
theorem c_is {X : Sm} {L s j : Nat} {B : Nat → Nat} (h : TkC X L B s) (hj : j < 17) : fn_97 j X = some (bI (wb L B s j), X) := c_97 h.1 h.2.2.1 h.2.2.2.1 h.2.2.2.2 (kdS_lt L B s) edS_ge (edS_le h.2.1) hj
theorem wb_in {L s j j' : Nat} {B : Nat → Nat} (hj : j < 17) (hj' : j' < 17) (h : wb L B s j = true) (h' : wb L B s j' = true) : j = j' := by
  unfold wb at h h'
  rw [Bool.and_eq_true] at h h'
  exact isW_in hj hj' h.2 h'.2
theorem nmb_iff {L s : Nat} {B : Nat → Nat} : nmb L B s = true ↔ kdS L B s = 1 ∧ edS L B s - s ≤ 6 ∧ wd B s (edS L B s) = (-1 : Int32) := by
  unfold nmb
  rw [Bool.and_eq_true, Bool.and_eq_true, decide_eq_true_eq]
  exact ⟨fun ⟨a, b, c⟩ => ⟨Nat.eq_of_beq_eq_true a, Nat.le_of_ble_eq_true b, c⟩, fun ⟨a, b, c⟩ => ⟨by rw [a]; rfl, Nat.ble_eq_true_of_le b, c⟩⟩
theorem nub_iff {L s : Nat} {B : Nat → Nat} : nub L B s = true ↔ krS L B s = 2 := by
  unfold nub
  exact ⟨Nat.eq_of_beq_eq_true, fun e => by rw [e]; rfl⟩
theorem qst {X : Sm} {b : Bool} {o : Option (Int32 × Sm)} {K : Sm → Option (Int32 × Sm)} (h : o = some (bI b, X)) : (bd o fun v Y => if v = nI 0 then K Y else some (nI 1, Y)) = cond b (some (nI 1, X)) (K X) := by
  rw [h, bd_t, bI_0]
theorem c_qt {X : Sm} {L s : Nat} {B : Nat → Nat} (h : TkC X L B s) : fn_99 X = some (bI (Nat.beq (kdS L B s) 1 && !decide (wd B s (edS L B s) = (-1 : Int32))), X) := by
  have hw : ∀ j, j < 17 → fn_97 j X = some (bI (wb L B s j), X) := fun j hj => c_is h hj
  unfold fn_99
  by_cases k1 : kdS L B s = 1
  · have ew : ∀ j, wb L B s j = isW B s (edS L B s) j := fun j => by unfold wb; rw [k1]; rfl
    rw [k1]
    rcases wd_c B s (edS L B s) with h1 | ⟨j, hj, h1⟩
    · have hn := wd_no.mp h1
      have hf : ∀ j, j < 17 → fn_97 j X = some (bI false, X) := fun j hj => by rw [hw j hj, ew, hn j hj]
      rw [h1, qst (hf 0 (by omega)), qst (hf 1 (by omega)), qst (hf 2 (by omega)), qst (hf 3 (by omega)), qst (hf 4 (by omega)), qst (hf 5 (by omega)), qst (hf 6 (by omega)), qst (hf 7 (by omega)), qst (hf 8 (by omega)), qst (hf 9 (by omega)), qst (hf 10 (by omega)), qst (hf 11 (by omega)), qst (hf 12 (by omega)), qst (hf 13 (by omega)), qst (hf 14 (by omega)), qst (hf 15 (by omega)), hf 16 (by omega)]
      rfl
    · have hy := (wd_iff hj).mp h1
      have hne : wd B s (edS L B s) ≠ (-1 : Int32) := by rw [h1]; exact nI_ne_m1 (by omega)
      rw [decide_eq_false hne]
      have hall : ∀ i, i < 17 → fn_97 i X = some (bI (Nat.beq i j), X) := fun i hi => by
        rw [hw i hi, ew]
        congr 3
        by_cases c : i = j
        · rw [c, hy, Nat.beq_refl]
        · rw [beq_ne c, Bool.eq_false_iff]
          exact fun q => c (isW_in hi hj q hy)
      rw [qst (hall 0 (by omega)), qst (hall 1 (by omega)), qst (hall 2 (by omega)), qst (hall 3 (by omega)), qst (hall 4 (by omega)), qst (hall 5 (by omega)), qst (hall 6 (by omega)), qst (hall 7 (by omega)), qst (hall 8 (by omega)), qst (hall 9 (by omega)), qst (hall 10 (by omega)), qst (hall 11 (by omega)), qst (hall 12 (by omega)), qst (hall 13 (by omega)), qst (hall 14 (by omega)), qst (hall 15 (by omega)), hall 16 (by omega)]
      have hj' : j = 0 ∨ j = 1 ∨ j = 2 ∨ j = 3 ∨ j = 4 ∨ j = 5 ∨ j = 6 ∨ j = 7 ∨ j = 8 ∨ j = 9 ∨ j = 10 ∨ j = 11 ∨ j = 12 ∨ j = 13 ∨ j = 14 ∨ j = 15 ∨ j = 16 := by omega
      rcases hj' with rfl | rfl | rfl | rfl | rfl | rfl | rfl | rfl | rfl | rfl | rfl | rfl | rfl | rfl | rfl | rfl | rfl <;> rfl
  · have hf : ∀ j, j < 17 → fn_97 j X = some (bI false, X) := fun j hj => by
      rw [hw j hj]
      unfold wb
      rw [beq_ne k1]
      rfl
    rw [beq_ne k1, qst (hf 0 (by omega)), qst (hf 1 (by omega)), qst (hf 2 (by omega)), qst (hf 3 (by omega)), qst (hf 4 (by omega)), qst (hf 5 (by omega)), qst (hf 6 (by omega)), qst (hf 7 (by omega)), qst (hf 8 (by omega)), qst (hf 9 (by omega)), qst (hf 10 (by omega)), qst (hf 11 (by omega)), qst (hf 12 (by omega)), qst (hf 13 (by omega)), qst (hf 14 (by omega)), qst (hf 15 (by omega)), hf 16 (by omega)]
    rfl
theorem c_nm {X : Sm} {L s : Nat} {B : Nat → Nat} (h : TkC X L B s) : fn_98 X = some (bI (nmb L B s), X) := by
  have hL := h.1.1
  have hs := h.2.1
  have he := edS_le (B := B) hs
  have hk := kdS_lt L B s
  unfold fn_98 nmb
  rw [h.2.2.1]
  by_cases k1 : kdS L B s = 1
  · rw [k1, if_pos rfl]
    unfold fn_96
    rw [bd_t, h.2.2.2.1, h.2.2.2.2, pk_sub edS_ge]
    by_cases c : edS L B s - s ≤ 6
    · rw [iteI_lt_f c (by omega), c_qt h, bd_t, k1, bI_0, Nat.ble_eq_true_of_le c]
      cases decide (wd B s (edS L B s) = (-1 : Int32)) <;> rfl
    · rw [iteI_lt_t (by omega) (by omega), show Nat.ble (edS L B s - s) 6 = false from Bool.eq_false_iff.mpr (fun q => c (Nat.le_of_ble_eq_true q))]
      rfl
  · rw [if_neg (fun q => k1 ((nI_eq (by omega) (by omega)).mp q)), beq_ne k1]
    rfl
theorem c_nv {X : Sm} {L s : Nat} {B : Nat → Nat} (h : TkC X L B s) (hn : nmb L B s = true) : fn_100 X = some (nmC L B s, X) := by
  obtain ⟨h1, h2, _⟩ := nmb_iff.mp hn
  obtain ⟨k1, k2⟩ := kd1 h1
  have ge := edS_ge (L := L) (B := B) (s := s)
  have he := edS_le (B := B) h.2.1
  have q := c_23 (s := s) (j := edS L B s - s) h.1 h2 (by omega) (fun i hi => ltA_iff.mp (k2 (s + i) (by omega) (by omega)))
  rw [show s + (edS L B s - s) = edS L B s by omega] at q
  unfold fn_100
  rw [h.2.2.2.1, h.2.2.2.2, q, bd_t]
  rfl
theorem c_nu {X : Sm} {L s : Nat} {B : Nat → Nat} (h : TkC X L B s) : fn_101 X = some (bI (nub L B s), X) := by
  have hL := h.1.1
  have hs := h.2.1
  have he := edS_le (B := B) hs
  have hk := kdS_lt L B s
  have hr := krS_2 (L := L) (B := B) (s := s)
  unfold fn_101 nub
  rw [h.2.2.1]
  by_cases k2 : kdS L B s = 2
  · rw [k2, if_pos rfl]
    unfold fn_96
    rw [bd_t, h.2.2.2.1, h.2.2.2.2, pk_sub edS_ge]
    by_cases c : edS L B s - s ≤ 3
    · rw [iteI_lt_f c (by omega), hr.mpr ⟨k2, c⟩]
      rfl
    · rw [iteI_lt_t (by omega) (by omega), beq_ne (fun q => c (hr.mp q).2)]
      rfl
  · rw [if_neg (fun q => k2 ((nI_eq (by omega) (by omega)).mp q)), beq_ne (fun q => k2 (hr.mp q).1)]
    rfl
theorem nuV_lt {L s : Nat} {B : Nat → Nat} (h : nub L B s = true) : nuV L B s < 1000 := by
  obtain ⟨k2, h3⟩ := krS_2.mp (nub_iff.mp h)
  obtain ⟨k, hd⟩ := kd2 k2
  have := dgV_lt (B := B) (s := s) (edS L B s - s) (fun i hi => hd (s + i) (by omega) (by omega))
  have : 10 ^ (edS L B s - s) ≤ 10 ^ 3 := Nat.pow_le_pow_right (by omega) h3
  unfold nuV
  omega
theorem c_va {X : Sm} {L s : Nat} {B : Nat → Nat} (h : TkC X L B s) (hn : nub L B s = true) : fn_102 X = some (nI (nuV L B s), X) := by
  obtain ⟨k2, h3⟩ := krS_2.mp (nub_iff.mp hn)
  obtain ⟨k, hd⟩ := kd2 k2
  have hL := h.1.1
  have ge := edS_ge (L := L) (B := B) (s := s)
  have he := edS_le (B := B) h.2.1
  unfold fn_102
  rw [h.2.2.2.1]
  refine lp_run (fun j => (nI (dgV B s j), nI (s + j), X)) (edS L B s - s) (FU_lt (by omega)) (fun j hj => ?_) ?_ rfl
  · have hb : 48 ≤ B (s + j) ∧ B (s + j) ≤ 57 := of_decide_eq_true (hd (s + j) (by omega) (by omega))
    simp only [fn_102_L7]
    rw [h.2.2.2.2, iteI_le_f (by omega) (by omega), c_18 h.1 (by omega), bd_t, pk_mul, nI_add, pk_sub (by omega), nI_add, Nat.mul_comm, show 10 * dgV B s j + B (s + j) - 48 = 10 * dgV B s j + (B (s + j) - 48) by omega]
    rfl
  · simp only [fn_102_L7]
    rw [h.2.2.2.2, show s + (edS L B s - s) = edS L B s by omega, iteI_le_t (Nat.le_refl _) (by omega)]
    rfl
/-! the reference, as long as no error was found -/
