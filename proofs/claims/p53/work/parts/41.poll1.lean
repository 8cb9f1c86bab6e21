/-! the class's poll: a ballot counted -/
theorem gI_sIk {Y : Sm} {k i j k' : Nat} {v : Int32} (h : k' ≠ k) : gI (sI Y k i j v).1 k' = gI Y.1 k' := by
  funext i' j'
  rw [gI_sI, if_neg (fun q => h q.1)]
theorem gI_sIi {Y : Sm} {k i j i' : Nat} {v : Int32} (h : i' ≠ i) : gI (sI Y k i j v).1 k i' = gI Y.1 k i' := by
  funext j'
  rw [gI_sI, if_neg (fun q => h q.2.1)]
theorem gI_sIv {Y : Sm} {k i j : Nat} {v : Int32} : gI (sI Y k i j v).1 k i = upd (gI Y.1 k i) j v := by
  rw [sI_sF, gI_sFs]
theorem Fr.gI {S : Nat → Nat → Prop} {Y Z : Sm} (h : Fr S Y Z) {k i : Nat} (hn : ¬ S k i) : gI Z.1 k i = gI Y.1 k i := (h.2 k i hn).1
theorem Fr.gJ {S : Nat → Nat → Prop} {Y Z : Sm} (h : Fr S Y Z) {k i : Nat} (hn : ¬ S k i) : gJ Z.1 k i = gJ Y.1 k i := (h.2 k i hn).2
def KS (l : List Nat) (k _i : Nat) : Prop := k ∈ l
theorem KS.sub {l l' : List Nat} (h : ∀ k, k ∈ l → k ∈ l') : ∀ k i, KS l k i → KS l' k i := fun k _ hk => h k hk
/-- a ballot with its order -/
def BlI (Z : Sm) (i C : Nat) (b : Nat → Nat) : Prop := ∀ p, p < C → b p < C ∧ gI Z.1 27 i p = nI (b p) ∧ ∀ q, q < C → b p = b q → p = q
theorem BlI.fr {Z W : Sm} {i C : Nat} {b : Nat → Nat} (h : BlI Z i C b) (e : gI W.1 27 i = gI Z.1 27 i) : BlI W i C b := fun p hp => by
  rw [e]; exact h p hp
theorem c_27in {Z : Sm} {C i1 j : Nat} {w : Int32} {b : Nat → Nat} (hC : C ≤ 5) (h0 : gI Z.1 39 0 0 = nI C) (hb : BlI Z i1 C b) (hj : j < C) : ∃ W, lp (fun s => fn_27_L63_d1 i1 w (nI j) (nI (b j)) s.1 s.2) FU (nI (j + 1), Z) = some (.inl (nI (j + 1), W)) ∧ Fr (KS [45]) Z W ∧ ∀ p q, p < C → q < C → gI W.1 45 (b p) (b q) = if p = j ∧ j < q then gI Z.1 45 (b p) (b q) + w else gI Z.1 45 (b p) (b q) := by
  have key := Ok_lp (F := fun s => fn_27_L63_d1 i1 w (nI j) (nI (b j)) s.1 s.2) (Q := fun x => ∃ W, x = .inl (nI (j + 1), W) ∧ Fr (KS [45]) Z W ∧ ∀ p q, p < C → q < C → gI W.1 45 (b p) (b q) = if p = j ∧ j < q then gI Z.1 45 (b p) (b q) + w else gI Z.1 45 (b p) (b q)) (fun t s => s.1 = nI (j + 1 + t) ∧ Fr (KS [45]) Z s.2 ∧ ∀ p q, p < C → q < C → gI s.2.1 45 (b p) (b q) = if p = j ∧ j < q ∧ q < j + 1 + t then gI Z.1 45 (b p) (b q) + w else gI Z.1 45 (b p) (b q)) (C - (j + 1)) (N := FU) (FU_lt (by omega)) (s := (nI (j + 1), Z)) ?_ ?_ ?_
  · obtain ⟨x, e, W, e2, h1, h2⟩ := key
    exact ⟨W, by rw [e, e2], h1, h2⟩
  · rintro t ⟨l, W⟩ ht ⟨e, hF, hI⟩
    have e : l = nI (j + 1 + t) := e
    subst e
    have hW : gI W.1 39 0 = gI Z.1 39 0 := hF.gI (by unfold KS; decide)
    have hB := hb.fr (hF.gI (k := 27) (i := i1) (by unfold KS; decide))
    have hbj := (hb j hj).1
    obtain ⟨b1, b2, b3⟩ := hB (j + 1 + t) (by omega)
    refine ⟨.inl (nI (j + 1 + (t + 1)), sI W 45 (b j) (b (j + 1 + t)) (gI W.1 45 (b j) (b (j + 1 + t)) + w)), ?_, rfl, hF.tr (Fr.sI (by unfold KS; decide)), fun p q hp hq => ?_⟩
    · simp only [fn_27_L63_d1, hW, h0]
      simp (disch := omega) only [ck_in, ix_nI, pk_mul, nI_add, pk_sub, iteI_le_t, iteI_le_f, iteI_lt_t, iteI_lt_f, iteI_eq_t, iteI_eq_f, bd_t, wr_t, ite_m1_f, ite_m1_t, ↓reduceIte, b2]
      rfl
    · show gI (sI W 45 (b j) (b (j + 1 + t)) (gI W.1 45 (b j) (b (j + 1 + t)) + w)).1 45 (b p) (b q) = _
      rw [gI_sI]
      by_cases c : p = j ∧ q = j + 1 + t
      · obtain ⟨rfl, rfl⟩ := c
        rw [if_pos ⟨rfl, rfl, rfl⟩, if_pos (by omega), hI _ _ hp hq, if_neg (by omega)]
      · have hne : ¬ (45 = 45 ∧ b p = b j ∧ b q = b (j + 1 + t)) := fun z => c ⟨(hb p hp).2.2 j hj z.2.1, (hb q hq).2.2 _ (by omega) z.2.2⟩
        rw [if_neg hne, hI _ _ hp hq]
        by_cases c2 : p = j ∧ j < q ∧ q < j + 1 + t
        · rw [if_pos c2, if_pos (by omega)]
        · rw [if_neg c2, if_neg (by omega)]
  · rintro ⟨l, W⟩ ⟨e, hF, hI⟩
    have e : l = nI (j + 1 + (C - (j + 1))) := e
    subst e
    have hW : gI W.1 39 0 = gI Z.1 39 0 := hF.gI (by unfold KS; decide)
    refine ⟨.inr (.inl (nI (j + 1), W)), ?_, W, rfl, hF, fun p q hp hq => ?_⟩
    · simp only [fn_27_L63_d1, hW, h0]
      simp (disch := omega) only [ck_in, ix_nI, pk_mul, nI_add, pk_sub, iteI_le_t, iteI_le_f, iteI_lt_t, iteI_lt_f, iteI_eq_t, iteI_eq_f, bd_t, wr_t, ite_m1_f, ite_m1_t, ↓reduceIte]
    · rw [hI p q hp hq]
      by_cases c2 : p = j ∧ j < q
      · rw [if_pos (by omega), if_pos c2]
      · rw [if_neg (by omega), if_neg c2]
  · exact ⟨rfl, Fr.rf, fun p q hp hq => by rw [if_neg (by omega)]⟩
/-- a ballot counted, by places -/
def AddI (Y Z : Sm) (C : Nat) (b : Nat → Nat) (w : Int32) (j : Nat) : Prop :=
  Fr (KS [40, 43, 45]) Y Z ∧ (∀ p, p < C → gI Z.1 40 0 (b p) = if p < j then gI Y.1 40 0 (b p) + w * nI (C - 1 - p) else gI Y.1 40 0 (b p)) ∧ (∀ p q, p < C → q < C → gI Z.1 43 (b p) q = if p = q ∧ p < j then gI Y.1 43 (b p) q + w else gI Y.1 43 (b p) q) ∧ (∀ p q, p < C → q < C → gI Z.1 45 (b p) (b q) = if p < q ∧ p < j then gI Y.1 45 (b p) (b q) + w else gI Y.1 45 (b p) (b q))
theorem c_27lp {Y : Sm} {C i1 : Nat} {w : Int32} {b : Nat → Nat} (hC : 0 < C ∧ C ≤ 5) (h0 : gI Y.1 39 0 0 = nI C) (hb : BlI Y i1 C b) : ∃ Z, lp (fun s => fn_27_L12 i1 w s.1 s.2) FU (nI 0, Y) = some ((), Z) ∧ AddI Y Z C b w C := by
  have key := Ok_lp (F := fun s => fn_27_L12 i1 w s.1 s.2) (Q := fun x => ∃ Z, x = ((), Z) ∧ AddI Y Z C b w C) (fun t s => s.1 = nI t ∧ AddI Y s.2 C b w t) C (N := FU) (FU_lt (by omega)) (s := (nI 0, Y)) ?_ ?_ ?_
  · obtain ⟨x, e, W, e2, h1⟩ := key
    exact ⟨W, by rw [e, e2], h1⟩
  · rintro t ⟨l, Z⟩ ht ⟨e, hF, h1, h2, h3⟩
    have e : l = nI t := e
    subst e
    have hF : Fr (KS [40, 43, 45]) Y Z := hF
    have hZ : gI Z.1 39 0 = gI Y.1 39 0 := hF.gI (by unfold KS; decide)
    obtain ⟨b1, b2, b3⟩ := hb t ht
    have e27 : gI Z.1 27 i1 = gI Y.1 27 i1 := hF.gI (by unfold KS; decide)
    obtain ⟨W, eW, hW1, hW2⟩ := c_27in (Z := sI (sI Z 40 0 (b t) (gI Z.1 40 0 (b t) + w * nI (C - 1 - t))) 43 (b t) t (gI Z.1 43 (b t) t + w)) (w := w) hC.2 (by rw [gI_sIk (by omega), gI_sIk (by omega), hZ]; exact h0) (hb.fr (by rw [gI_sIk (by omega), gI_sIk (by omega)]; exact e27)) ht
    refine ⟨.inl (nI (t + 1), W), ?_, rfl, ?_, fun p hp => ?_, fun p q hp hq => ?_, fun p q hp hq => ?_⟩
    · simp only [fn_27_L12, hZ, h0, e27]
      simp (disch := omega) only [ck_in, ix_nI, pk_mul, nI_add, pk_sub, iteI_le_t, iteI_le_f, iteI_lt_t, iteI_lt_f, iteI_eq_t, iteI_eq_f, bd_t, wr_t, ite_m1_f, ite_m1_t, ↓reduceIte, b2, gI_sIk]
      exact eW
    · exact (hF.tr (Fr.tr (Fr.sI (by unfold KS; decide)) (Fr.sI (by unfold KS; decide)))).tr (hW1.up (KS.sub (by decide)))
    · have : gI W.1 40 0 = _ := hW1.gI (by unfold KS; decide)
      show gI W.1 40 0 (b p) = _
      rw [this, gI_sIk (by omega), gI_sIv]
      by_cases c : p = t
      · subst c
        rw [upd_at, if_pos (by omega), h1 _ hp, if_neg (by omega)]
      · have hne : b p ≠ b t := fun z => c ((hb p hp).2.2 t ht z)
        rw [upd_ne hne, h1 _ hp]
        by_cases c2 : p < t
        · rw [if_pos c2, if_pos (by omega)]
        · rw [if_neg c2, if_neg (by omega)]
    · have : gI W.1 43 (b p) = _ := hW1.gI (by unfold KS; decide)
      show gI W.1 43 (b p) q = _
      rw [this, gI_sI, gI_sIk (by omega)]
      by_cases c : p = t ∧ q = t
      · obtain ⟨rfl, rfl⟩ := c
        rw [if_pos ⟨rfl, rfl, rfl⟩, if_pos (by omega), h2 _ _ hp hq, if_neg (by omega)]
      · have hne : ¬ (43 = 43 ∧ b p = b t ∧ q = t) := fun z => c ⟨(hb p hp).2.2 t ht z.2.1, z.2.2⟩
        rw [if_neg hne, h2 _ _ hp hq]
        by_cases c2 : p = q ∧ p < t
        · rw [if_pos c2, if_pos (by omega)]
        · rw [if_neg c2, if_neg (by omega)]
    · show gI W.1 45 (b p) (b q) = _
      rw [hW2 p q hp hq, gI_sIk (by omega), gI_sIk (by omega), h3 p q hp hq]
      by_cases c : p = t ∧ t < q
      · rw [if_pos c, if_neg (by omega), if_pos (by omega)]
      · rw [if_neg c]
        by_cases c2 : p < q ∧ p < t
        · rw [if_pos c2, if_pos (by omega)]
        · rw [if_neg c2, if_neg (by omega)]
  · rintro ⟨l, Z⟩ ⟨e, hA⟩
    have e : l = nI C := e
    subst e
    have hZ : gI Z.1 39 0 = gI Y.1 39 0 := hA.1.gI (by unfold KS; decide)
    refine ⟨.inr ((), Z), ?_, Z, rfl, hA⟩
    simp only [fn_27_L12, hZ, h0]
    simp (disch := omega) only [ck_in, ix_nI, pk_mul, nI_add, pk_sub, iteI_le_t, iteI_le_f, iteI_lt_t, iteI_lt_f, iteI_eq_t, iteI_eq_f, bd_t, wr_t, ite_m1_f, ite_m1_t, ↓reduceIte]
  · exact ⟨rfl, Fr.rf, fun p hp => by rw [if_neg (by omega)], fun p q hp hq => by rw [if_neg (by omega)], fun p q hp hq => by rw [if_neg (by omega)]⟩

