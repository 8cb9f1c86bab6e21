/-! the class's poll: clearing, all the ballots -/
theorem surj_of_inj (n : Nat) : ∀ f : Nat → Nat, (∀ k, k < n → f k < n) → (∀ a b, a < n → b < n → f a = f b → a = b) → ∀ y, y < n → ∃ k, k < n ∧ f k = y := by
  induction n with
  | zero => intro f _ _ y hy; omega
  | succ n ih =>
    intro f h1 h2 y hy
    have hne : ∀ k, k < n → f k ≠ f n := fun k hk q => by
      have := h2 k n (by omega) (by omega) q
      omega
    have hg := ih (fun k => if f k = n then f n else f k) (fun k hk => by
      show (if f k = n then f n else f k) < n
      have a1 := h1 k (by omega)
      have a2 := h1 n (by omega)
      have a3 := hne k hk
      split <;> omega) (fun a b ha hb q => by
      have q : (if f a = n then f n else f a) = (if f b = n then f n else f b) := q
      have a1 := hne a ha
      have a2 := hne b hb
      by_cases c : f a = n
      · by_cases d : f b = n
        · exact h2 a b (by omega) (by omega) (c.trans d.symm)
        · rw [if_pos c, if_neg d] at q
          exact absurd q.symm a2
      · by_cases d : f b = n
        · rw [if_neg c, if_pos d] at q
          exact absurd q a1
        · rw [if_neg c, if_neg d] at q
          exact h2 a b (by omega) (by omega) q)
    by_cases c : y = f n
    · exact ⟨n, by omega, c.symm⟩
    · by_cases d : y = n
      · have hv := h1 n (by omega)
        obtain ⟨k, hk, e⟩ := hg (f n) (by omega)
        have e : (if f k = n then f n else f k) = f n := e
        by_cases z : f k = n
        · exact ⟨k, by omega, z.trans d.symm⟩
        · rw [if_neg z] at e
          exact absurd e (hne k hk)
      · obtain ⟨k, hk, e⟩ := hg y (by omega)
        have e : (if f k = n then f n else f k) = y := e
        by_cases z : f k = n
        · rw [if_pos z] at e
          exact absurd e.symm c
        · rw [if_neg z] at e
          exact ⟨k, by omega, e⟩
theorem inj_of_surj {n : Nat} {b g : Nat → Nat} (h1 : ∀ k, k < n → g k < n) (h2 : ∀ k, k < n → b (g k) = k) (h3 : ∀ p, p < n → b p < n) : ∀ p q, p < n → q < n → b p = b q → p = q := fun p q hp hq e => by
  have hi := surj_of_inj n g h1 (fun x y hx hy z => by rw [← h2 x hx, ← h2 y hy, z])
  obtain ⟨x, hx, ex⟩ := hi p hp
  obtain ⟨y, hy, ey⟩ := hi q hq
  rw [← ex, ← ey, h2 x hx, h2 y hy] at e
  rw [← ex, ← ey, e]
theorem c_26in {Z : Sm} {i : Nat} (hi : i < 5) : ∃ W, lp (fun s => fn_26_L33_d1 (nI i) s.1 s.2) FU (nI 0, Z) = some (.inl (nI (i + 1), W)) ∧ Fr (KS [43, 45]) Z W ∧ (∀ k p, p < 5 → gI W.1 43 k p = if k = i then nI 0 else gI Z.1 43 k p) ∧ (∀ k p, p < 5 → gI W.1 45 k p = if k = i then nI 0 else gI Z.1 45 k p) := by
  have key := Ok_lp (F := fun s => fn_26_L33_d1 (nI i) s.1 s.2) (Q := fun x => ∃ W, x = .inl (nI (i + 1), W) ∧ Fr (KS [43, 45]) Z W ∧ (∀ k p, p < 5 → gI W.1 43 k p = if k = i then nI 0 else gI Z.1 43 k p) ∧ (∀ k p, p < 5 → gI W.1 45 k p = if k = i then nI 0 else gI Z.1 45 k p)) (fun t s => s.1 = nI t ∧ Fr (KS [43, 45]) Z s.2 ∧ (∀ k p, p < 5 → gI s.2.1 43 k p = if k = i ∧ p < t then nI 0 else gI Z.1 43 k p) ∧ (∀ k p, p < 5 → gI s.2.1 45 k p = if k = i ∧ p < t then nI 0 else gI Z.1 45 k p)) 5 (N := FU) (FU_lt (by omega)) (s := (nI 0, Z)) ?_ ?_ ?_
  · obtain ⟨x, e, W, e2, h1⟩ := key
    exact ⟨W, by rw [e, e2], h1⟩
  · rintro t ⟨l, W⟩ ht ⟨e, hF, h1, h2⟩
    have e : l = nI t := e
    subst e
    have up : ∀ k p, (if k = i ∧ p = t then nI 0 else if k = i ∧ p < t then nI 0 else (0 : Int32)) = if k = i ∧ p < t + 1 then nI 0 else (0 : Int32) := fun k p => by
      by_cases c : k = i ∧ p = t
      · rw [if_pos c, if_pos (by omega)]
      · rw [if_neg c]
        by_cases c2 : k = i ∧ p < t
        · rw [if_pos c2, if_pos (by omega)]
        · rw [if_neg c2, if_neg (by omega)]
    refine ⟨.inl (nI (t + 1), sI (sI W 43 i t (nI 0)) 45 i t (nI 0)), ?_, rfl, hF.tr (Fr.tr (Fr.sI (by unfold KS; decide)) (Fr.sI (by unfold KS; decide))), fun k p hp => ?_, fun k p hp => ?_⟩
    · simp only [fn_26_L33_d1]
      simp (disch := omega) only [ck_in, ix_nI, pk_mul, nI_add, pk_sub, iteI_le_t, iteI_le_f, iteI_lt_t, iteI_lt_f, iteI_eq_t, iteI_eq_f, bd_t, wr_t, ite_m1_f, ite_m1_t, ↓reduceIte]
    · show gI (sI (sI W 43 i t (nI 0)) 45 i t (nI 0)).1 43 k p = _
      rw [gI_sIk (by omega), gI_sI]
      by_cases c : k = i ∧ p = t
      · rw [if_pos ⟨rfl, c⟩, if_pos (by omega)]
      · rw [if_neg (fun z => c z.2), h1 k p hp]
        by_cases c2 : k = i ∧ p < t
        · rw [if_pos c2, if_pos (by omega)]
        · rw [if_neg c2, if_neg (by omega)]
    · show gI (sI (sI W 43 i t (nI 0)) 45 i t (nI 0)).1 45 k p = _
      rw [gI_sI]
      by_cases c : k = i ∧ p = t
      · rw [if_pos ⟨rfl, c⟩, if_pos (by omega)]
      · rw [if_neg (fun z => c z.2), gI_sIk (by omega), h2 k p hp]
        by_cases c2 : k = i ∧ p < t
        · rw [if_pos c2, if_pos (by omega)]
        · rw [if_neg c2, if_neg (by omega)]
  · rintro ⟨l, W⟩ ⟨e, hF, h1, h2⟩
    have e : l = nI 5 := e
    subst e
    refine ⟨.inr (.inl (nI (i + 1), W)), ?_, W, rfl, hF, fun k p hp => ?_, fun k p hp => ?_⟩
    · simp only [fn_26_L33_d1]
      simp (disch := omega) only [ck_in, ix_nI, pk_mul, nI_add, pk_sub, iteI_le_t, iteI_le_f, iteI_lt_t, iteI_lt_f, iteI_eq_t, iteI_eq_f, bd_t, wr_t, ite_m1_f, ite_m1_t, ↓reduceIte]
    · rw [h1 k p hp]
      by_cases c : k = i
      · rw [if_pos ⟨c, hp⟩, if_pos c]
      · rw [if_neg (fun z => c z.1), if_neg c]
    · rw [h2 k p hp]
      by_cases c : k = i
      · rw [if_pos ⟨c, hp⟩, if_pos c]
      · rw [if_neg (fun z => c z.1), if_neg c]
  · exact ⟨rfl, Fr.rf, fun k p hp => by rw [if_neg (by omega)], fun k p hp => by rw [if_neg (by omega)]⟩
def Cl0 (Y Z : Sm) (t : Nat) : Prop := Fr (KS [40, 41, 43, 45]) Y Z ∧ (∀ k, k < t → gI Z.1 40 0 k = nI 0 ∧ gI Z.1 41 0 k = nI 0) ∧ (∀ k p, k < t → p < 5 → gI Z.1 43 k p = nI 0 ∧ gI Z.1 45 k p = nI 0)
theorem c_26 (Y : Sm) (C : Int32) : ∃ Z, fn_26 C Y = some ((), Z) ∧ Fr (KS [39, 40, 41, 43, 45]) Y Z ∧ gI Z.1 39 0 0 = C ∧ gI Z.1 39 0 1 = nI 0 ∧ (∀ k, k < 5 → gI Z.1 40 0 k = nI 0 ∧ gI Z.1 41 0 k = nI 0) ∧ (∀ k p, k < 5 → p < 5 → gI Z.1 43 k p = nI 0 ∧ gI Z.1 45 k p = nI 0) := by
  have key := fun X => Ok_lp (F := fun s => fn_26_L12 s.1 s.2) (Q := fun x => ∃ Z, x = ((), Z) ∧ Cl0 X Z 5) (fun t s => s.1 = nI t ∧ Cl0 X s.2 t) 5 (N := FU) (FU_lt (by omega)) (s := (nI 0, X)) ?_ ?_ ?_
  · obtain ⟨x, e, Z, e2, hF, h1, h2⟩ := key (sI (sI Y 39 0 0 C) 39 0 1 (nI 0))
    subst e2
    have e9 : gI Z.1 39 0 = _ := hF.gI (by unfold KS; decide)
    refine ⟨Z, ?_, (Fr.tr (Fr.sI (by unfold KS; decide)) (Fr.sI (by unfold KS; decide))).tr (hF.up (KS.sub (by decide))), ?_, ?_, h1, h2⟩
    · unfold fn_26
      rw [wr_t, wr_t]
      exact e
    · rw [e9, gI_sIv, gI_sIv, upd_ne (by omega), upd_at]
    · rw [e9, gI_sIv, upd_at]
  · rintro t ⟨l, Z⟩ ht ⟨e, hF, h1, h2⟩
    have e : l = nI t := e
    subst e
    obtain ⟨W, eW, hW, hW1, hW2⟩ := c_26in (Z := sI (sI Z 40 0 t (nI 0)) 41 0 t (nI 0)) ht
    refine ⟨.inl (nI (t + 1), W), ?_, rfl, ?_, fun k hk => ?_, fun k p hk hp => ?_⟩
    · simp only [fn_26_L12]
      simp (disch := omega) only [ck_in, ix_nI, pk_mul, nI_add, pk_sub, iteI_le_t, iteI_le_f, iteI_lt_t, iteI_lt_f, iteI_eq_t, iteI_eq_f, bd_t, wr_t, ite_m1_f, ite_m1_t, ↓reduceIte]
      exact eW
    · exact (hF.tr (Fr.tr (Fr.sI (by unfold KS; decide)) (Fr.sI (by unfold KS; decide)))).tr (hW.up (KS.sub (by decide)))
    · have e0 : gI W.1 40 0 = _ := hW.gI (by unfold KS; decide)
      have e1 : gI W.1 41 0 = _ := hW.gI (by unfold KS; decide)
      show gI W.1 40 0 k = nI 0 ∧ gI W.1 41 0 k = nI 0
      rw [e0, e1, gI_sIk (by omega), gI_sIv, gI_sIv, gI_sIk (by omega)]
      by_cases c : k = t
      · subst c
        rw [upd_at, upd_at]
        exact ⟨rfl, rfl⟩
      · rw [upd_ne c, upd_ne c]
        exact h1 k (by omega)
    · show gI W.1 43 k p = nI 0 ∧ gI W.1 45 k p = nI 0
      rw [hW1 k p hp, hW2 k p hp]
      by_cases c : k = t
      · rw [if_pos c, if_pos c]
        exact ⟨rfl, rfl⟩
      · rw [if_neg c, if_neg c, gI_sIk (by omega), gI_sIk (by omega), gI_sIk (by omega), gI_sIk (by omega)]
        exact h2 k p (by omega) hp
  · rintro ⟨l, Z⟩ ⟨e, hA⟩
    have e : l = nI 5 := e
    subst e
    refine ⟨.inr ((), Z), ?_, Z, rfl, hA⟩
    simp only [fn_26_L12]
    simp (disch := omega) only [ck_in, ix_nI, pk_mul, nI_add, pk_sub, iteI_le_t, iteI_le_f, iteI_lt_t, iteI_lt_f, iteI_eq_t, iteI_eq_f, bd_t, wr_t, ite_m1_f, ite_m1_t, ↓reduceIte]
  · exact ⟨rfl, Fr.rf, fun k hk => by omega, fun k p hk hp => by omega⟩
/-- what a vote sees of a state -/
def PV (Y : Sm) (n : Nat) (P : Pm) (r : Nat → Int32) : Prop := (gI Y.1 5 (Y.2 (n + 3)) 0 = nI P.1 ∧ gI Y.1 5 (Y.2 (n + 3)) 3 = nI P.2.1) ∧ (0 < P.1 ∧ P.1 ≤ 5 ∧ 0 < P.2.1 ∧ P.2.1 ≤ 8) ∧ gI Y.1 11 (Y.2 (n + 3)) 4 = P.2.2.1 4 ∧ (∀ a, a < P.2.1 → gI Y.1 10 (Y.2 (n + 3)) a = P.2.2.2 a ∧ gI Y.1 31 n a = r (36 + a)) ∧ (∀ a p, a < P.2.1 → p < P.1 → gI Y.1 27 (8 * n + a) p = bal r a p)
theorem PV.fr {Y Z : Sm} {n : Nat} {P : Pm} {r : Nat → Int32} {l : List Nat} (h : PV Y n P r) (hF : Fr (KS l) Y Z) (h5 : ¬ 5 ∈ l) (h11 : ¬ 11 ∈ l) (h10 : ¬ 10 ∈ l) (h31 : ¬ 31 ∈ l) (h27 : ¬ 27 ∈ l) : PV Z n P r := by
  unfold PV at h ⊢
  rw [hF.1, hF.gI h5, hF.gI h11, hF.gI h10, hF.gI h31]
  refine ⟨h.1, h.2.1, h.2.2.1, h.2.2.2.1, fun a p ha hp => ?_⟩
  rw [hF.gI h27]
  exact h.2.2.2.2 a p ha hp
/-- the order of a ballot -/
theorem BlI_of {Y : Sm} {n : Nat} {P : Pm} {r : Nat → Int32} (h : PV Y n P r) (hB : BalI r P.1 P.2.1) {a : Nat} (ha : a < P.2.1) : ∃ b, BlI Y (8 * n + a) P.1 b ∧ (∀ p, p < P.1 → bal r a p = nI (b p) ∧ plc P r a (b p) = p) ∧ ∀ k, k < P.1 → plc P r a k < P.1 ∧ b (plc P r a k) = k := by
  obtain ⟨h1, h2⟩ := hB a ha
  have hc : ∀ p, ∃ k, p < P.1 → k < P.1 ∧ bal r a p = nI k := fun p => by
    rcases Nat.lt_or_ge p P.1 with c | c
    · obtain ⟨k, hk, e⟩ := h2 p c
      exact ⟨k, fun _ => ⟨hk, e⟩⟩
    · exact ⟨0, fun q => by omega⟩
  let b := fun p => Classical.choose (hc p)
  have hb : ∀ p, p < P.1 → b p < P.1 ∧ bal r a p = nI (b p) := fun p hp => Classical.choose_spec (hc p) hp
  have h3 := h.2.1
  have hinv : ∀ k, k < P.1 → plc P r a k < P.1 ∧ b (plc P r a k) = k := fun k hk => by
    have hl := plc_lt hB ha hk
    have hy := srch_yes (p := fun p => decide (bal r a p = nI k)) hl
    have e : bal r a (plc P r a k) = nI k := of_decide_eq_true hy
    refine ⟨hl, ?_⟩
    have := (hb _ hl).2
    rw [e] at this
    exact ((nI_eq (by have := (hb _ hl).1; omega) (by omega)).mp this.symm)
  have hinj : ∀ p q, p < P.1 → q < P.1 → b p = b q → p = q := inj_of_surj (g := plc P r a) (fun k hk => (hinv k hk).1) (fun k hk => (hinv k hk).2) (fun p hp => (hb p hp).1)
  exact ⟨b, fun p hp => ⟨(hb p hp).1, (h.2.2.2.2 a p ha hp).trans (hb p hp).2, fun q hq e => hinj p q hp hq e⟩, fun p hp => ⟨(hb p hp).2, hinj _ _ (hinv _ (hb p hp).1).1 hp (hinv _ (hb p hp).1).2⟩, hinv⟩

