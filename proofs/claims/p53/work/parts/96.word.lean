/-! the words of the language -/
def wch (j i : Nat) : Nat := ix (schr j i)
def ofs (j : Nat) : Nat := ([0, 6, 12, 17, 23, 29, 37, 44, 50, 57, 64, 70, 75, 81, 86, 91, 99, 103] : List Nat).getD j 0
theorem w_ch : ∀ j, j < 17 → ∀ i, i < slen j → schr j i = nI (wch j i) ∧ 97 ≤ wch j i ∧ wch j i ≤ 122 := by decide +kernel
theorem w_of : ∀ j, j < 17 → ofs j + slen j + 1 = ofs (j + 1) ∧ ofs (j + 1) ≤ 103 ∧ 1 ≤ slen j ∧ slen j ≤ 7 := by decide +kernel
theorem w_ds : ∀ j, j < 17 → ∀ j', j' < 17 → (Nat.beq j j' || (!(Nat.beq (slen j) (slen j')) || !(Nat.beq (srch (fun i => !(Nat.beq (wch j i) (wch j' i))) (slen j)) (slen j)))) = true := by decide +kernel
/-- the token from s to e is the word j -/
def isW (B : Nat → Nat) (s e j : Nat) : Bool := Nat.beq (e - s) (slen j) && Nat.beq (srch (fun i => !(Nat.beq (B (s + i)) (wch j i))) (slen j)) (slen j)
theorem isW_iff {B : Nat → Nat} {s e j : Nat} : isW B s e j = true ↔ e - s = slen j ∧ ∀ i, i < slen j → B (s + i) = wch j i := by
  unfold isW
  rw [Bool.and_eq_true]
  constructor
  · rintro ⟨h1, h2⟩
    refine ⟨Nat.eq_of_beq_eq_true h1, fun i hi => ?_⟩
    have := srch_no (p := fun i => !(Nat.beq (B (s + i)) (wch j i))) (n := slen j) (j := i) (by have := Nat.eq_of_beq_eq_true h2; omega)
    exact Nat.eq_of_beq_eq_true (not_t this)
  · rintro ⟨h1, h2⟩
    refine ⟨by rw [h1]; exact Nat.beq_refl _, ?_⟩
    rw [srch_none (fun i hi => by rw [h2 i hi, Nat.beq_refl]; rfl)]
    exact Nat.beq_refl _
theorem isW_in {B : Nat → Nat} {s e j j' : Nat} (hj : j < 17) (hj' : j' < 17) (h : isW B s e j = true) (h' : isW B s e j' = true) : j = j' := by
  obtain ⟨a1, a2⟩ := isW_iff.mp h
  obtain ⟨b1, b2⟩ := isW_iff.mp h'
  have d := w_ds j hj j' hj'
  have e1 : slen j = slen j' := by omega
  rw [srch_none (p := fun i => !(Nat.beq (wch j i) (wch j' i))) (fun i hi => by rw [← a2 i hi, ← b2 i (by omega), Nat.beq_refl]; rfl), ← e1, Nat.beq_refl] at d
  simp only [Nat.beq_refl, Bool.not_true, Bool.or_false] at d
  exact Nat.eq_of_beq_eq_true d
/-- the number of the word, or none -/
def wd (B : Nat → Nat) (s e : Nat) : Int32 := sres (isW B s e) 17
theorem wd_iff {B : Nat → Nat} {s e j : Nat} (hj : j < 17) : wd B s e = nI j ↔ isW B s e j = true := by
  unfold wd
  rcases sres_c (isW B s e) 17 with h | ⟨i, hi, h1, h2⟩
  · rw [h]
    constructor
    · intro q; exact absurd q.symm (nI_ne_m1 (by omega))
    · intro q
      have : srch (isW B s e) 17 < 17 := srch_lt hj q
      rw [sres_f this] at h
      exact absurd h (nI_ne_m1 (by omega))
  · rw [h2]
    constructor
    · intro q
      rw [← (nI_eq (by omega) (by omega)).mp q]; exact h1
    · intro q
      rw [isW_in hi hj h1 q]
theorem wd_no {B : Nat → Nat} {s e : Nat} : wd B s e = (-1 : Int32) ↔ ∀ j, j < 17 → isW B s e j = false := by
  constructor
  · intro h j hj
    rw [Bool.eq_false_iff]
    intro q
    rw [(wd_iff hj).mpr q] at h
    exact nI_ne_m1 (by omega) h
  · intro h
    exact srs_no h
theorem wd_c (B : Nat → Nat) (s e : Nat) : wd B s e = (-1 : Int32) ∨ ∃ j, j < 17 ∧ wd B s e = nI j := by
  rcases sres_c (isW B s e) 17 with h | ⟨i, hi, h1, h2⟩
  · exact Or.inl h
  · exact Or.inr ⟨i, hi, h2⟩
/-- the class asks for a word -/
theorem c_97 {X : Sm} {L k s e j : Nat} {B : Nat → Nat} (h : Tx X L B) (e1 : gI X.1 4 0 1 = nI k) (e2 : gI X.1 4 0 2 = nI s) (e3 : gI X.1 4 0 3 = nI e) (hk : k < 5) (hse : s ≤ e) (he : e ≤ L) (hj : j < 17) : fn_97 j X = some (bI (Nat.beq k 1 && isW B s e j), X) := by
  have hL := h.1
  unfold fn_97
  rw [e1]
  by_cases c : k = 1
  · rw [c, if_pos rfl]
    unfold fn_96
    rw [bd_t, e2, e3, pk_sub hse]
    have hs7 := (w_of j hj).2.2.2
    by_cases d : e - s = slen j
    · rw [d, if_pos rfl]
      have eb : (Nat.beq 1 1 && isW B s e j) = Nat.beq (srch (fun i => !(Nat.beq (B (s + i)) (wch j i))) (slen j)) (slen j) := by
        unfold isW
        rw [d, Nat.beq_refl, Nat.beq_refl, Bool.true_and, Bool.true_and]
      rw [eb]
      have key := lp_srch (F := fun s => fn_97_L23 j s.1 s.2) (Y := X) (fun i => !(Nat.beq (B (s + i)) (wch j i))) (slen j) (fun i => (bI (Nat.beq i (slen j)), X)) (by omega) (fun i hi hp => ?_) (fun i hi hp => ?_) ?_
      · exact key
      · have q := Nat.eq_of_beq_eq_true (not_t hp)
        simp only [fn_97_L23]
        rw [iteI_le_f hi (by omega), e2, nI_add, c_18 h (by omega), bd_t, ck_in hi (by omega), ix_nI (by omega), (w_ch j hj i hi).1, q, if_pos rfl, nI_add]
      · have q := not_f hp
        have h256 := (h.2.2 (s + i) (by omega)).1
        have := (w_ch j hj i hi).2.2
        simp only [fn_97_L23]
        rw [iteI_le_f hi (by omega), e2, nI_add, c_18 h (by omega), bd_t, ck_in hi (by omega), ix_nI (by omega), (w_ch j hj i hi).1, if_neg (fun z => by
          rw [(nI_eq (by omega) (by omega)).mp z, Nat.beq_refl] at q
          cases q), beq_ne (show i ≠ slen j by omega)]
        rfl
      · simp only [fn_97_L23]
        rw [iteI_le_t (Nat.le_refl _) (by omega), Nat.beq_refl]
        rfl
    · rw [if_neg (fun q => d ((nI_eq (by omega) (by omega)).mp q))]
      have eb : (Nat.beq 1 1 && isW B s e j) = false := by
        unfold isW
        rw [beq_ne d]
        rfl
      rw [eb]
      rfl
  · rw [if_neg (fun q => c ((nI_eq (by omega) (by omega)).mp q)), beq_ne c]
    rfl
/-- the reference's number of a word -/
def TxM (W : Sm) (L : Nat) (B : Nat → Nat) : Prop := L ≤ 500 ∧ gI W.1 48 0 24 = nI L ∧ ∀ j, j < L → B j < 256 ∧ gI W.1 60 0 j = sb (B j)
