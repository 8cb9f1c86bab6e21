/-! distance, differences, decisive askers -/
theorem ord_i {f : Nat → Int32} {C : Nat} (hC : C ≤ 5) (h : OrdI f C) : ∃ b : Nat → Nat, (∀ p, p < C → b p < C ∧ f p = nI (b p)) ∧ (∀ p q, p < C → q < C → b p = b q → p = q) ∧ (∀ k, k < C → srch (fun p => decide (f p = nI k)) C < C ∧ b (srch (fun p => decide (f p = nI k)) C) = k) ∧ ∀ p, p < C → srch (fun q => decide (f q = nI (b p))) C = p := by
  obtain ⟨h1, h2⟩ := h
  have hb : ∃ b : Nat → Nat, ∀ p, p < C → b p < C ∧ f p = nI (b p) := ⟨fun p => ix (f p), fun p hp => by
    obtain ⟨k, hk, e⟩ := h2 p hp
    show ix (f p) < C ∧ f p = nI (ix (f p))
    rw [e, ix_nI (by omega)]
    exact ⟨hk, rfl⟩⟩
  obtain ⟨b, hb⟩ := hb
  have hs : ∀ k, k < C → srch (fun p => decide (f p = nI k)) C < C ∧ b (srch (fun p => decide (f p = nI k)) C) = k := fun k hk => by
    obtain ⟨p, hp, e⟩ := h1 k hk
    have hl : srch (fun p => decide (f p = nI k)) C < C := srch_lt hp (decide_eq_true e)
    have hy := of_decide_eq_true (srch_yes hl)
    refine ⟨hl, ?_⟩
    rw [(hb _ hl).2] at hy
    exact (nI_eq (by have := (hb _ hl).1; omega) (by omega)).mp hy
  have hi : ∀ p q, p < C → q < C → b p = b q → p = q := fun p q hp hq e =>
    inj_of_surj (g := fun k => srch (fun p => decide (f p = nI k)) C) (fun k hk => (hs k hk).1) (fun k hk => (hs k hk).2) (fun p hp => (hb p hp).1) p q hp hq e
  refine ⟨b, hb, hi, hs, fun p hp => ?_⟩
  obtain ⟨a1, a2⟩ := hs (b p) (hb p hp).1
  exact hi _ _ a1 hp a2
/-- the place in one order of what stands in the other -/
def plx (f g : Nat → Int32) (C q : Nat) : Nat := srch (fun p => decide (g p = f q)) C
theorem plx_inv {f g : Nat → Int32} {C : Nat} (hC : C ≤ 5) (hf : OrdI f C) (hg : OrdI g C) : Inv2 (plx f g C) (plx g f C) C := by
  obtain ⟨a, a1, a2, a3, a4⟩ := ord_i hC hf
  obtain ⟨b, b1, b2, b3, b4⟩ := ord_i hC hg
  refine ⟨fun p hp => ?_, fun p hp => ?_⟩
  · unfold plx
    rw [(a1 p hp).2]
    obtain ⟨s1, s2⟩ := b3 (a p) (a1 p hp).1
    refine ⟨s1, ?_⟩
    rw [(b1 _ s1).2, s2]
    exact a4 p hp
  · unfold plx
    rw [(b1 p hp).2]
    obtain ⟨s1, s2⟩ := a3 (b p) (b1 p hp).1
    refine ⟨s1, ?_⟩
    rw [(a1 _ s1).2, s2]
    exact b4 p hp
/-- the class's two loops -/
theorem c_ivin {Y : Sm} {F : Int32 × Int32 × Sm → Option ((Int32 × Int32 × Sm) ⊕ ((Int32 × Int32 × Sm) ⊕ (Int32 × Sm)))} {x : Nat → Nat} {p acc : Nat} (hp : p < 5) (ha : acc < 1000) (h1 : ∀ q a, q < p → a < 2000 → F (nI a, nI q, Y) = some (.inl (nI (cond (decide (x p < x q)) (a + 1) a), nI (q + 1), Y))) (h2 : ∀ a, F (nI a, nI p, Y) = some (.inr (.inl (nI a, nI p + nI 1, Y)))) : lp F FU (nI acc, nI 0, Y) = some (.inl (nI (acc + cntN (fun q => decide (x p < x q)) p), nI (p + 1), Y)) := by
  have e := lp_run (F := F) (r := .inl (nI (acc + cntN (fun q => decide (x p < x q)) p), nI (p + 1), Y)) (fun q => (nI (acc + cntN (fun q => decide (x p < x q)) q), nI q, Y)) p (FU_lt (by omega)) (fun q hq => ?_) (by rw [h2, nI_add]) (s := (nI acc, nI 0, Y)) rfl
  · exact e
  · have := cntN_le (fun q => decide (x p < x q)) q
    rw [h1 q _ hq (by omega)]
    show some (Sum.inl (nI (cond (decide (x p < x q)) _ _), _, _)) = some (Sum.inl (nI (acc + cond (decide (x p < x q)) _ _), _, _))
    cases decide (x p < x q) <;> rfl
theorem c_ivout {Y : Sm} {F : Int32 × Int32 × Sm → Option ((Int32 × Int32 × Sm) ⊕ (Int32 × Sm))} {x : Nat → Nat} {C : Nat} (hC : C ≤ 5) (h1 : ∀ p a, p < C → a < 1000 → F (nI a, nI p, Y) = some (.inl (nI (a + cntN (fun q => decide (x p < x q)) p), nI (p + 1), Y))) (h2 : ∀ a, F (nI a, nI C, Y) = some (.inr (nI a, Y))) : lp F FU (nI 0, nI 0, Y) = some (nI (invA x C), Y) := by
  rw [← inv_c]
  refine lp_run (fun p => (nI (sumQ (fun p => cntN (fun q => decide (x p < x q)) p) p), nI p, Y)) C (FU_lt (by omega)) (fun p hp => ?_) (h2 _) rfl
  have hb : sumQ (fun p => cntN (fun q => decide (x p < x q)) p) p ≤ invA x C := by
    rw [← inv_c]
    exact sumQ_le (by omega)
  have := invA_le x C hC
  rw [h1 p _ hp (by omega)]
  rfl
theorem m_ivin {Y : Sm} {F : Int32 × Int32 × Sm → Option ((Int32 × Int32 × Sm) ⊕ ((Int32 × Int32 × Sm) ⊕ (Int32 × Sm)))} {x : Nat → Nat} {p C acc : Nat} (hC : C ≤ 5) (hp : p < C) (ha : acc < 1000) (h1 : ∀ q a, p < q → q < C → a < 2000 → F (nI a, nI q, Y) = some (.inl (nI (cond (decide (x q < x p)) (a + 1) a), nI (q + 1), Y))) (h2 : ∀ a, F (nI a, nI C, Y) = some (.inr (.inl (nI a, nI p + nI 1, Y)))) : lp F FU (nI acc, nI (p + 1), Y) = some (.inl (nI (acc + cntN (fun q => decide (p < q) && decide (x q < x p)) C), nI (p + 1), Y)) := by
  have e0 : cntN (fun q => decide (p < q) && decide (x q < x p)) (p + 1) = 0 := cnt_0 (fun j hj => by
    rw [decide_eq_false (by omega)]
    rfl)
  have eC : p + 1 + (C - (p + 1)) = C := by omega
  have e := lp_run (F := F) (r := .inl (nI (acc + cntN (fun q => decide (p < q) && decide (x q < x p)) C), nI (p + 1), Y)) (fun j => (nI (acc + cntN (fun q => decide (p < q) && decide (x q < x p)) (p + 1 + j)), nI (p + 1 + j), Y)) (C - (p + 1)) (N := FU) (FU_lt (by omega)) (fun j hj => ?_) (by rw [eC, h2, nI_add]) (s := (nI acc, nI (p + 1), Y)) (by
    show _ = (nI (acc + cntN (fun q => decide (p < q) && decide (x q < x p)) (p + 1 + 0)), nI (p + 1 + 0), Y)
    rw [e0]
    rfl)
  · exact e
  · have := cntN_le (fun q => decide (p < q) && decide (x q < x p)) (p + 1 + j)
    rw [h1 (p + 1 + j) _ (by omega) (by omega) (by omega)]
    show some (Sum.inl (nI (cond (decide (x (p + 1 + j) < x p)) _ _), _, _)) = some (Sum.inl (nI (acc + cond (decide (p < p + 1 + j) && decide (x (p + 1 + j) < x p)) _ _), _, _))
    rw [decide_eq_true (show p < p + 1 + j by omega), Bool.true_and]
    cases decide (x (p + 1 + j) < x p) <;> rfl
theorem m_ivout {Y : Sm} {F : Int32 × Int32 × Sm → Option ((Int32 × Int32 × Sm) ⊕ (Int32 × Sm))} {x : Nat → Nat} {C : Nat} (hC : C ≤ 5) (h1 : ∀ p a, p < C → a < 1000 → F (nI a, nI p, Y) = some (.inl (nI (a + cntN (fun q => decide (p < q) && decide (x q < x p)) C), nI (p + 1), Y))) (h2 : ∀ a, F (nI a, nI C, Y) = some (.inr (nI a, Y))) : lp F FU (nI 0, nI 0, Y) = some (nI (invA x C), Y) := by
  rw [← inv_m]
  refine lp_run (fun p => (nI (sumQ (fun p => cntN (fun q => decide (p < q) && decide (x q < x p)) C) p), nI p, Y)) C (FU_lt (by omega)) (fun p hp => ?_) (h2 _) rfl
  have hb : sumQ (fun p => cntN (fun q => decide (p < q) && decide (x q < x p)) C) p ≤ invA x C := by
    rw [← inv_m]
    exact sumQ_le (by omega)
  have := invA_le x C hC
  rw [h1 p _ hp (by omega)]
  rfl
theorem iteI_cnt {ρ : Type} {a b : Nat} {u v : ρ} (ha : a < 2 ^ 31) (hb : b < 2 ^ 31) : (if nI a ≤ nI b then u else v) = cond (decide (b < a)) v u := by
  by_cases h : b < a
  · rw [iteI_le_f h ha, decide_eq_true h]; rfl
  · rw [iteI_le_t (by omega) hb, decide_eq_false h]; rfl
/-! two tallies -/
theorem plx_cg {f f' g g' : Nat → Int32} {C : Nat} (h1 : ∀ p, p < C → f p = f' p) (h2 : ∀ p, p < C → g p = g' p) {q : Nat} (hq : q < C) : plx f g C q = plx f' g' C q := by
  unfold plx
  exact srch_cg (fun p hp => by rw [h1 q hq, h2 p hp])
