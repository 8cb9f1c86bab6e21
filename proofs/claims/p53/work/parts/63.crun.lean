/-! the class's run -/
theorem bx_l {α ρ : Type} {v : α} {Z : Sm} {g : Nat → Sm → Option ρ} {k : α → Sm → Option ρ} : bx (some (.inl v, Z)) g k = k v Z := by
  have h : ∀ m, m = some (.inl v, Z) → bx m g k = k v Z := fun m e => by
    rw [e]
    unfold bx
    rfl
  exact h _ rfl
theorem CR.frH {Y Z : Sm} {n n0 v q m : Nat} {P : Pm} {r : Nat → Int32} (hA : P.2.1 ≤ 8) (h : CR Y n P r q m) (hne : n ≠ n0) (hF : Fr (fun k i => S2 n0 k i ∨ (k = 37 ∧ i = 0)) (sG Y (n0 + 3) v) Z) : CR Z n P r q m := by
  have n37 : ∀ k i, CRk n k i → ¬ (S2 n0 k i ∨ (k = 37 ∧ i = 0)) := fun k i hk z => by
    rcases z with z | z
    · exact S2_ne hne hk z
    · unfold CRk S2 at hk
      simp only [List.mem_cons, List.mem_nil_iff, or_false] at hk
      omega
  exact h.frk hA (by rw [hF.1, g_sG, ug_ne (by omega)]) (fun k i hk => (hF.gI (n37 k i hk)).trans (by rw [gI_sG])) ((hF.gJ (n37 25 n (Or.inr (Or.inl ⟨rfl, by decide⟩)))).trans (by rw [gJ_sG]))
theorem c_run {Y : Sm} {pos u n m n' m' t s tu ro k : Nat} {P : Pm} {r r' : Nat → Int32} (h3 : 0 < P.1 ∧ P.1 ≤ 5 ∧ 0 < P.2.1 ∧ P.2.1 ≤ 8) (hW : WI P) (hS : SetI P tu ro) (hs : s ≤ 1000) (ht : t + k ≤ 1000000) (hk : 1 ≤ k ∧ k ≤ 500) (hp : pos < 8) (h1 : gI Y.1 37 0 1 = nI pos) (h2 : gI Y.1 37 0 2 = nI u) (hu : u ≤ 8) (hG : GR P r t n m s) (hG' : GR P r' (t + k) n' m' s) (h : CR Y 0 P r n m) (hT : TkN P tu ro t s k n m r n' m' r') : ∃ A Z, fn_134 (nI k) Y = some (.inl (nI m' - nI m), Z) ∧ Fr (fun k i => S2 ((pos + 1) % 8 + 3) k i ∨ (k = 37 ∧ i = 0)) (sG Y ((pos + 1) % 8 + 3 + 3) (Y.2 3)) A ∧ Fr (SS 0) A Z ∧ CR Z 0 P r' n' m' ∧ CR Z ((pos + 1) % 8 + 3) P r n m ∧ gI Z.1 37 0 1 = nI ((pos + 1) % 8) ∧ gI Z.1 37 0 2 = nI (if u + 1 ≤ 8 then u + 1 else 8) := by
  obtain ⟨A, eA, fA, cA, a1, a2⟩ := c_14 h3 hp h1 h2 hu hG.2.1.1 hG.2.2.2.2.1 h
  have cA0 : CR A 0 P r n m := h.frH h3.2.2.2 (by omega) fA
  obtain ⟨Z, eZ, fZ, cZ⟩ := c_85 h3 hW hS hs ht (by omega) cA0 hT
  have e37 : gI Z.1 37 0 = gI A.1 37 0 := fZ.gI (fun z => by
    unfold SS at z
    simp only [List.mem_cons, List.mem_nil_iff, or_false] at z
    omega)
  refine ⟨A, Z, ?_, fA, fZ, cZ, cA.frS h3.2.2.2 (by omega) fZ, by rw [e37]; exact a1, by rw [e37]; exact a2⟩
  unfold fn_134
  have e157 : fn_157 (nI k) (nI 500) Y = some (.inl (), Y) := by
    unfold fn_157
    rw [iteI_lt_f hk.1 (by omega), iteI_le_t hk.2 (by omega)]
  have b1 : gI Z.1 21 0 8 = nI m' := (cZ.a 7 (by omega)).trans hG'.1.2.2.1
  have b2 : gI A.1 21 0 8 = nI m := (cA0.a 7 (by omega)).trans hG.1.2.2.1
  rw [e157]
  rw [bx_l, eA, bd_t, eZ, bd_t, b1, b2]

