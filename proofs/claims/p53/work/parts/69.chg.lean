/-! changes, both sides -/
def CFr (Y Z : Sm) (p' : Nat) : Prop := Z.2 (p' + 6) = Y.2 3 ∧ (∀ a, a ≠ p' + 6 → Z.2 a = Y.2 a) ∧ ∀ k i, ¬ (k ∈ [37, 39, 40, 41, 43, 45, 46, 66] ∨ S2 0 k i ∨ S2 (p' + 3) k i) → gI Z.1 k i = gI Y.1 k i ∧ gJ Z.1 k i = gJ Y.1 k i
theorem CFr_k {k i p' : Nat} (h : 48 ≤ k) (h66 : k ≠ 66) : ¬ (k ∈ [37, 39, 40, 41, 43, 45, 46, 66] ∨ S2 0 k i ∨ S2 (p' + 3) k i) := by
  unfold S2
  simp only [List.mem_cons, List.mem_nil_iff, or_false] at *
  omega
theorem CFr_ne {n k i p' : Nat} (h0 : n ≠ 0) (h1 : n ≠ p' + 3) (h : CRk n k i) : ¬ (k ∈ [37, 39, 40, 41, 43, 45, 46, 66] ∨ S2 0 k i ∨ S2 (p' + 3) k i) := by
  unfold CRk S2 at h
  unfold S2
  simp only [List.mem_cons, List.mem_nil_iff, or_false] at *
  omega
theorem CFr_o {k i p' : Nat} (h : k ∈ [0, 1, 2, 3, 4, 5, 6, 7, 8, 9, 10, 11, 20]) : ¬ (k ∈ [37, 39, 40, 41, 43, 45, 46, 66] ∨ S2 0 k i ∨ S2 (p' + 3) k i) := by
  unfold S2
  simp only [List.mem_cons, List.mem_nil_iff, or_false] at *
  omega
theorem MFr_c {n k i : Nat} (h : CRk n k i) : ¬ k ∈ [48, 52, 54, 57, 58] := by
  unfold CRk S2 at h
  simp only [List.mem_cons, List.mem_nil_iff, or_false] at *
  omega
def CcS (Y Z : Sm) (P : Pm) (r' : Nat → Int32) (c u pos : Nat) : Prop := CFr Y Z ((pos + 1) % 8) ∧ gI Z.1 37 0 1 = nI ((pos + 1) % 8) ∧ gI Z.1 37 0 2 = nI (if u + 1 ≤ 8 then u + 1 else 8) ∧ St Z 0 P r' (c + 1) ∧ St Z ((pos + 1) % 8 + 3) P (gI Y.1 52 0) (c + 1)
theorem St.j {Y : Sm} {n c : Nat} {P : Pm} {r : Nat → Int32} {v : Int64} (hA : P.2.1 ≤ 8) (h : St Y n P r c) : St (sJ Y 66 0 0 v) n P r c :=
  h.frk hA rfl rfl (fun _ _ _ => rfl) (by
    funext q
    rw [gJ_sJ, if_neg (fun z => by omega)])
theorem CcS.j {Y Z : Sm} {P : Pm} {r' : Nat → Int32} {c u pos : Nat} {v : Int64} (hA : P.2.1 ≤ 8) (h : CcS Y Z P r' c u pos) : CcS Y (sJ Z 66 0 0 v) P r' c u pos := by
  obtain ⟨⟨f1, f2, f3⟩, c1, c2, hs, hp⟩ := h
  refine ⟨⟨f1, f2, fun k i hk => ⟨(f3 k i hk).1, ?_⟩⟩, c1, c2, hs.j hA, hp.j hA⟩
  rw [← (f3 k i hk).2]
  funext q
  rw [gJ_sJ, if_neg (fun z => hk (Or.inl (by rw [z.1]; decide)))]
/-- what comes behind the push touches state 0 alone -/
def SZ (k i : Nat) : Prop := SS 0 k i ∨ k = 46
theorem SZ_c {k i p' : Nat} (h : SZ k i) : k ∈ [37, 39, 40, 41, 43, 45, 46, 66] ∨ S2 0 k i ∨ S2 (p' + 3) k i := by
  rcases h with (h | h | h | h) | h
  · left
    simp only [List.mem_cons, List.mem_nil_iff, or_false] at *
    omega
  · exact Or.inr (Or.inl (Or.inl h))
  · exact Or.inr (Or.inl (Or.inr (Or.inl h)))
  · exact Or.inr (Or.inl (Or.inr (Or.inr h)))
  · rw [h]; exact Or.inl (by decide)
theorem SZ_ne {n k i : Nat} (hne : n ≠ 0) (h : CRk n k i) : ¬ SZ k i := by
  unfold CRk S2 at h
  unfold SZ SS
  simp only [List.mem_cons, List.mem_nil_iff, or_false] at *
  omega
theorem CcS.s {Y A Z : Sm} {P : Pm} {r r' : Nat → Int32} {c u pos : Nat} (hA : P.2.1 ≤ 8) (h : CcS Y A P r c u pos) (hF : Fr SZ A Z) (hs : St Z 0 P r' (c + 1)) : CcS Y Z P r' c u pos := by
  obtain ⟨⟨f1, f2, f3⟩, c1, c2, _, hp⟩ := h
  have e37 : gI Z.1 37 0 = gI A.1 37 0 := hF.gI (fun w => by
    unfold SZ SS at w
    simp only [List.mem_cons, List.mem_nil_iff, or_false] at w
    omega)
  refine ⟨⟨by rw [hF.1]; exact f1, fun a ha => by rw [hF.1]; exact f2 a ha, fun k i hk => ?_⟩, by rw [e37]; exact c1, by rw [e37]; exact c2, hs, hp.frk hA (by rw [hF.1]) (by rw [hF.1]) (fun k i hk => hF.gI (SZ_ne (by omega) hk)) (hF.gJ (SZ_ne (n := (pos + 1) % 8 + 3) (by omega) (Or.inr (Or.inl ⟨rfl, by decide⟩))))⟩
  have hn : ¬ SZ k i := fun w => hk (SZ_c w)
  exact ⟨(hF.gI hn).trans (f3 k i hk).1, (hF.gJ hn).trans (f3 k i hk).2⟩

