/-! both sides together -/
/-- the answers of the askers are no more than those of all -/
def AnI (r : Nat → Int32) (A m : Nat) : Prop := ∀ a, a < A → ∃ x, x ≤ m ∧ r (52 + a) = nI x
theorem AnI.cg {r r' : Nat → Int32} {A m : Nat} (h : AnI r A m) (e : ∀ a, a < A → r' (52 + a) = r (52 + a)) : AnI r' A m := fun a ha => by
  rw [e a ha]; exact h a ha
/-- a state of the class that is in use -/
def St (Y : Sm) (n : Nat) (P : Pm) (r : Nat → Int32) (c : Nat) : Prop := Y.2 (n + 3) = Y.2 0 ∧ ∃ t q m s, CR Y n P r q m ∧ GR P r t q m s ∧ t ≤ 500 * c ∧ s ≤ 40 + c ∧ AnI r P.2.1 m
/-- a name: base 256 and base 32 -/
def n256 (w : List Nat) : Nat := w.foldl (fun x a => x * 256 + (a + 96)) 0
def Wd (w : List Nat) : Prop := 1 ≤ w.length ∧ w.length ≤ 6 ∧ ∀ a ∈ w, 1 ≤ a ∧ a ≤ 26
theorem St.up {Y : Sm} {n c c' : Nat} {P : Pm} {r : Nat → Int32} (h : St Y n P r c) (hc : c ≤ c') : St Y n P r c' := by
  obtain ⟨h1, t, q, m, s, a, b, d, e, f⟩ := h
  exact ⟨h1, t, q, m, s, a, b, by omega, by omega, f⟩
theorem St.frk {Y Z : Sm} {n c : Nat} {P : Pm} {r : Nat → Int32} (hA : P.2.1 ≤ 8) (h : St Y n P r c) (h0 : Z.2 0 = Y.2 0) (hG : Z.2 (n + 3) = Y.2 (n + 3)) (hI : ∀ k i, CRk n k i → gI Z.1 k i = gI Y.1 k i) (hJ : gJ Z.1 25 n = gJ Y.1 25 n) : St Z n P r c := by
  obtain ⟨h1, t, q, m, s, a, b⟩ := h
  exact ⟨by rw [hG, h0]; exact h1, t, q, m, s, a.frk hA hG hI hJ, b⟩
theorem St.c7 {Y : Sm} {n c : Nat} {P : Pm} {r r' : Nat → Int32} (h3 : P.1 ≤ 5 ∧ P.2.1 ≤ 8) (h : St Y n P r c) (e : Eq7 r r') : St Y n P r' c := by
  obtain ⟨h1, t, q, m, s, a, b, d, f, g⟩ := h
  exact ⟨h1, t, q, m, s, a.c7 h3 b.2.1.1 e, b.c7 h3 e, d, f, g.cg (fun a ha => e _ (by omega))⟩
/-- what a query may change -/
def QK (k i : Nat) : Prop := k ∈ [39, 40, 41, 43, 45, 46, 47, 48, 52, 54, 55, 58, 59, 66, 67] ∨ S2 1 k i
theorem QK_ne {n k i : Nat} (hne : n ≠ 1) (h : CRk n k i) : ¬ QK k i := by
  unfold CRk S2 at h
  unfold QK S2
  simp only [List.mem_cons, List.mem_nil_iff, or_false] at *
  omega
theorem QK_k {k i : Nat} (h : k ∈ [0, 1, 2, 3, 4, 5, 6, 7, 8, 9, 10, 11, 20, 37, 49, 50, 51, 53, 56, 57, 60, 61, 62, 63, 64, 65, 68]) : ¬ QK k i := by
  unfold QK S2
  simp only [List.mem_cons, List.mem_nil_iff, or_false] at *
  omega
theorem hx_ne {pos u j : Nat} : hx pos u j ≠ 0 ∧ hx pos u j ≠ 1 ∧ hx pos u j ≠ 2 := by
  unfold hx
  omega
/-- the class's part of a query, the model's part -/
def QC (Y Z : Sm) : Prop := (∀ a, a ≠ 4 → Z.2 a = Y.2 a) ∧ ∀ k i, ¬ (k ∈ [39, 40, 41, 43, 45, 46, 47] ∨ S2 1 k i) → gI Z.1 k i = gI Y.1 k i ∧ gJ Z.1 k i = gJ Y.1 k i
theorem QC.rf {Y : Sm} : QC Y Y := ⟨fun _ _ => rfl, fun _ _ _ => ⟨rfl, rfl⟩⟩
theorem QC.tr {Y Z W : Sm} (h : QC Y Z) (h2 : QC Z W) : QC Y W := ⟨fun x hx => (h2.1 x hx).trans (h.1 x hx), fun k i hk => ⟨(h2.2 k i hk).1.trans (h.2 k i hk).1, (h2.2 k i hk).2.trans (h.2 k i hk).2⟩⟩
theorem QC.i {Y Z : Sm} (h : QC Y Z) {k i : Nat} (hk : ¬ (k ∈ [39, 40, 41, 43, 45, 46, 47] ∨ S2 1 k i)) : gI Z.1 k i = gI Y.1 k i := (h.2 k i hk).1
theorem QC_k {k i : Nat} (h : 48 ≤ k) : ¬ (k ∈ [39, 40, 41, 43, 45, 46, 47] ∨ S2 1 k i) := by
  unfold S2
  simp only [List.mem_cons, List.mem_nil_iff, or_false] at *
  omega
theorem QC.m {Y Z : Sm} (h : QC Y Z) {k i : Nat} (hk : 48 ≤ k) : gI Z.1 k i = gI Y.1 k i := (h.2 k i (QC_k hk)).1
theorem QC.kf {Y Z : Sm} {l : List Nat} (h : Fr (KS l) Y Z) (hl : ∀ k, k ∈ l → k ∈ [39, 40, 41, 43, 45, 46, 47]) : QC Y Z := ⟨fun a _ => by rw [h.1], fun k i hk => h.2 k i (fun z => hk (Or.inl (hl k z)))⟩
theorem QC.s1 {Y Z : Sm} (h : Fr (SS 1) Y Z) : QC Y Z := ⟨fun a _ => by rw [h.1], fun k i hk => h.2 k i (fun z => hk (by
  rcases z with z | z | z | z
  · left
    simp only [List.mem_cons, List.mem_nil_iff, or_false] at *
    omega
  · exact Or.inr (Or.inl z)
  · exact Or.inr (Or.inr (Or.inl z))
  · exact Or.inr (Or.inr (Or.inr z))))⟩
theorem QC.s2 {Y Z : Sm} {v : Nat} (h : Fr (S2 1) (sG Y 4 v) Z) : QC Y Z := ⟨fun a ha => by rw [h.1, g_sG, ug_ne ha], fun k i hk => ⟨(h.gI (fun z => hk (Or.inr z))).trans (by rw [gI_sG]), (h.gJ (fun z => hk (Or.inr z))).trans (by rw [gJ_sG])⟩⟩
/-! how the law's cases are met -/
def CqS {α : Type} (F : Sm → Option (α × Sm)) (Y : Sm) (o : α) : Prop := ∃ Z, F Y = some (o, Z) ∧ QC Y Z
theorem bx_r {α ρ : Type} {x : Nat} {Z : Sm} {g : Nat → Sm → Option ρ} {k : α → Sm → Option ρ} : bx (some (.inr x, Z)) g k = g x Z := by
  have h : ∀ m, m = some (.inr x, Z) → bx m g k = g x Z := fun m e => by
    rw [e]
    unfold bx
    rfl
  exact h _ rfl
