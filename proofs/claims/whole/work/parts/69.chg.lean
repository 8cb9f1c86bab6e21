/-! changes, both sides -/
def CFr (Y Z : Sm) (p' : Nat) : Prop := Z.2 (p' + 6) = Y.2 3 ∧ (∀ a, a ≠ p' + 6 → Z.2 a = Y.2 a) ∧ ∀ k i, ¬ (k ∈ [37, 39, 40, 41, 43, 45, 46, 66] ∨ S2 0 k i ∨ S2 (p' + 3) k i) → gI Z.1 k i = gI Y.1 k i ∧ gJ Z.1 k i = gJ Y.1 k i
def MFr (Y Z : Sm) : Prop := Z.2 = Y.2 ∧ (∀ k i, ¬ k ∈ [48, 52, 54, 57, 58] → gI Z.1 k i = gI Y.1 k i ∧ gJ Z.1 k i = gJ Y.1 k i) ∧ ∀ x, x ≠ 0 → x ≠ 17 → gI Z.1 48 0 x = gI Y.1 48 0 x
theorem MFr.of {Y Z : Sm} (h : Fr RS Y Z) (h48 : ∀ x, x ≠ 0 → x ≠ 17 → gI Z.1 48 0 x = gI Y.1 48 0 x) : MFr Y Z := ⟨h.1, fun k i hk => h.2 k i (fun z => hk (by
  unfold RS at z
  simp only [List.mem_cons, List.mem_nil_iff, or_false]
  omega)), h48⟩
/-- the model's part is the same -/
def MS (Y W : Sm) : Prop := ∀ k i, 48 ≤ k → k ≠ 66 → gI W.1 k i = gI Y.1 k i
theorem MS.rf {Y : Sm} : MS Y Y := fun _ _ _ _ => rfl
theorem CFr_k {k i p' : Nat} (h : 48 ≤ k) (h66 : k ≠ 66) : ¬ (k ∈ [37, 39, 40, 41, 43, 45, 46, 66] ∨ S2 0 k i ∨ S2 (p' + 3) k i) := by
  unfold S2
  simp only [List.mem_cons, List.mem_nil_iff, or_false] at *
  omega
theorem CFr.ms {Y Z : Sm} {p' : Nat} (h : CFr Y Z p') : MS Y Z := fun k i hk h66 => (h.2.2 k i (CFr_k hk h66)).1
theorem CFr_ne {n k i p' : Nat} (h0 : n ≠ 0) (h1 : n ≠ p' + 3) (h : CRk n k i) : ¬ (k ∈ [37, 39, 40, 41, 43, 45, 46, 66] ∨ S2 0 k i ∨ S2 (p' + 3) k i) := by
  unfold CRk S2 at h
  unfold S2
  simp only [List.mem_cons, List.mem_nil_iff, or_false] at *
  omega
theorem CFr_o {k i p' : Nat} (h : k ∈ [0, 1, 2, 3, 4, 5, 6, 7, 8, 9, 10, 11, 20]) : ¬ (k ∈ [37, 39, 40, 41, 43, 45, 46, 66] ∨ S2 0 k i ∨ S2 (p' + 3) k i) := by
  unfold S2
  simp only [List.mem_cons, List.mem_nil_iff, or_false] at *
  omega
theorem MFr_c {n k i : Nat} (h : CRk n k i) : ¬ k ∈ [48, 52, 54, 57, 58] := by
  unfold CRk S2 at h
  simp only [List.mem_cons, List.mem_nil_iff, or_false] at *
  omega
theorem St.m {Y Z : Sm} {n c : Nat} {P : Pm} {r : Nat → Int32} (hA : P.2.1 ≤ 8) (h : St Y n P r c) (hM : MFr Y Z) : St Z n P r c :=
  h.frk hA (by rw [hM.1]) (by rw [hM.1]) (fun k i hk => (hM.2.1 k i (MFr_c hk)).1) (hM.2.1 25 n (by decide)).2
def CcS (Y Z : Sm) (P : Pm) (r' : Nat → Int32) (c u pos : Nat) : Prop := CFr Y Z ((pos + 1) % 8) ∧ gI Z.1 37 0 1 = nI ((pos + 1) % 8) ∧ gI Z.1 37 0 2 = nI (if u + 1 ≤ 8 then u + 1 else 8) ∧ St Z 0 P r' (c + 1) ∧ St Z ((pos + 1) % 8 + 3) P (gI Y.1 52 0) (c + 1)
theorem R6.chg {Y Z1 Z2 : Sm} {c tu ro u pos : Nat} {P : Pm} {b : Bool} {r' : Nat → Int32} (h : R6 Y c P tu ro u pos b) (hC : CcS Y Z1 P r' c u pos) (hM : MFr Z1 Z2) (hr : Eq7 r' (gI Z2.1 52 0)) (hu : UnR Z1 Z2 u) : R6 Z2 (c + 1) P tu ro (if u + 1 ≤ 8 then u + 1 else 8) ((pos + 1) % 8) b := by
  obtain ⟨hK, h0, hU, hS, hI, hN⟩ := h
  obtain ⟨hF, c1, c2, hs, hp⟩ := hC
  have hA := hK.a8
  obtain ⟨m1, m2, m3⟩ := hM
  obtain ⟨f1, f2, f3⟩ := hF
  obtain ⟨⟨p1, p2⟩, p3, p4, p5, p6⟩ := hU
  have hMF : MFr Z1 Z2 := ⟨m1, m2, m3⟩
  have hFr : CFr Y Z1 ((pos + 1) % 8) := ⟨f1, f2, f3⟩
  have e48 : ∀ x, x ≠ 0 → x ≠ 17 → gI Z2.1 48 0 x = gI Y.1 48 0 x := fun x h1 h2 => (m3 x h1 h2).trans (by rw [hFr.ms 48 0 (by omega) (by omega)])
  have o : ∀ k i, k ∈ [0, 1, 2, 3, 4, 5, 6, 7, 8, 9, 10, 11, 20] → gI Z2.1 k i = gI Y.1 k i ∧ gJ Z2.1 k i = gJ Y.1 k i := fun k i hk => by
    have hk' : ¬ k ∈ [48, 52, 54, 57, 58] := by
      simp only [List.mem_cons, List.mem_nil_iff, or_false] at *
      omega
    exact ⟨(m2 k i hk').1.trans (f3 k i (CFr_o hk)).1, (m2 k i hk').2.trans (f3 k i (CFr_o hk)).2⟩
  have om : ∀ k i, k ∈ [49, 50, 51, 56, 60, 65] → gI Z2.1 k i = gI Y.1 k i ∧ gJ Z2.1 k i = gJ Y.1 k i := fun k i hk => by
    have hk' : ¬ k ∈ [48, 52, 54, 57, 58] := by
      simp only [List.mem_cons, List.mem_nil_iff, or_false] at *
      omega
    have hk2 : 48 ≤ k ∧ k ≠ 66 := by
      simp only [List.mem_cons, List.mem_nil_iff, or_false] at *
      omega
    exact ⟨(m2 k i hk').1.trans (f3 k i (CFr_k hk2.1 hk2.2)).1, (m2 k i hk').2.trans (f3 k i (CFr_k hk2.1 hk2.2)).2⟩
  have z0 : Z2.2 0 = Y.2 0 := by rw [m1]; exact f2 0 (by omega)
  have z1 : Z2.2 1 = Y.2 1 := by rw [m1]; exact f2 1 (by omega)
  have e37 : gI Z2.1 37 0 = gI Z1.1 37 0 := (m2 37 0 (by decide)).1
  have old : ∀ n r, n ≠ 0 → n ≠ (pos + 1) % 8 + 3 → St Y n P r c → St Z2 n P r (c + 1) := fun n r h1 h2 h =>
    ((h.up (by omega)).frk (Z := Z1) hA.2.2.2 (f2 0 (by omega)) (f2 _ (by omega)) (fun k i hk => (f3 k i (CFr_ne h1 h2 hk)).1) (f3 25 n (CFr_ne h1 h2 (Or.inr (Or.inl ⟨rfl, by decide⟩)))).2).m hA.2.2.2 hMF
  have h3' : P.1 ≤ 5 ∧ P.2.1 ≤ 8 := ⟨hA.2.1, hA.2.2.2⟩
  refine ⟨hK.cg (fun x _ _ => e48 x (by omega) (by omega)) (om 49 0 (by decide)).1 (e48 19 (by omega) (by omega)) z0 z1, (hs.m hA.2.2.2 hMF).c7 h3' hr, ⟨⟨by omega, by split <;> omega⟩, by rw [e37]; exact c1, by rw [e37]; exact c2, hu.1, fun j hj => ?_⟩, ⟨by rw [(o 0 0 (by decide)).1]; exact hS.1, (e48 18 (by omega) (by omega)).trans hS.2.1, fun hb => ?_⟩, hI.cg (by rw [(o 1 0 (by decide)).1]) (o 2 0 (by decide)).1 (om 60 0 (by decide)).1 (by rw [(o 0 0 (by decide)).1]) (by rw [(o 0 0 (by decide)).1]) (by rw [(o 0 0 (by decide)).1]) (o 20 0 (by decide)).1 (om 65 0 (by decide)).1 (fun x hx => e48 x (by omega) (by omega)), hN.cg z0 (o 6 _ (by decide)).2 (o 8 _ (by decide)).2 (om 50 0 (by decide)).2 (om 51 0 (by decide)).2⟩
  · have hrow := fun q hq => hu.2 j q hj hq
    have e52 : gI Z1.1 52 0 = gI Y.1 52 0 := hFr.ms 52 0 (by omega) (by omega)
    have e57 : gI Z1.1 57 0 = gI Y.1 57 0 := hFr.ms 57 0 (by omega) (by omega)
    rw [e52, e57] at hrow
    by_cases d : j + 1 = (if u + 1 ≤ 8 then u + 1 else 8)
    · have ehx : hx ((pos + 1) % 8) (if u + 1 ≤ 8 then u + 1 else 8) j = (pos + 1) % 8 + 3 := by
        unfold hx
        omega
      rw [ehx]
      refine (hp.m hA.2.2.2 hMF).c7 h3' (fun q hq => ?_)
      unfold rowH
      rw [hrow q hq, if_pos d]
    · by_cases w : u + 1 ≤ 8
      · rw [if_pos w] at hj d
        have ehx : hx ((pos + 1) % 8) (if u + 1 ≤ 8 then u + 1 else 8) j = hx pos u j := by
          rw [if_pos w]
          unfold hx
          omega
        rw [ehx]
        refine (old _ _ hx_ne.1 ?_ (p6 j (by omega))).c7 h3' (fun q hq => ?_)
        · unfold hx
          omega
        · unfold rowH
          rw [hrow q hq, if_neg (by rw [if_pos w]; exact d), if_pos w]
      · rw [if_neg w] at hj d
        have ehx : hx ((pos + 1) % 8) (if u + 1 ≤ 8 then u + 1 else 8) j = hx pos u (j + 1) := by
          rw [if_neg w]
          unfold hx
          omega
        rw [ehx]
        refine (old _ _ hx_ne.1 ?_ (p6 (j + 1) (by omega))).c7 h3' (fun q hq => ?_)
        · unfold hx
          omega
        · unfold rowH
          rw [hrow q hq, if_neg (by rw [if_neg w]; exact d), if_neg w]
  · have e56 : gI Z2.1 56 0 = gI Y.1 56 0 := (om 56 0 (by decide)).1
    rw [e56]
    exact old 2 _ (by omega) (by omega) (hS.2.2 hb)
theorem MS.j {Y Z : Sm} {v : Int64} (h : MS Y Z) : MS Y (sJ Z 66 0 0 v) := fun k i h1 h2 => h k i h1 h2
theorem St.j {Y : Sm} {n c : Nat} {P : Pm} {r : Nat → Int32} {v : Int64} (hA : P.2.1 ≤ 8) (h : St Y n P r c) : St (sJ Y 66 0 0 v) n P r c :=
  h.frk hA rfl rfl (fun _ _ _ => rfl) (by
    funext q
    rw [gJ_sJ, if_neg (fun z => by omega)])
theorem CcS.j {Y Z : Sm} {P : Pm} {r' : Nat → Int32} {c u pos : Nat} {v : Int64} (hA : P.2.1 ≤ 8) (h : CcS Y Z P r' c u pos) : CcS Y (sJ Z 66 0 0 v) P r' c u pos := by
  obtain ⟨⟨f1, f2, f3⟩, c1, c2, hs, hp⟩ := h
  refine ⟨⟨f1, f2, fun k i hk => ⟨(f3 k i hk).1, ?_⟩⟩, c1, c2, hs.j hA, hp.j hA⟩
  rw [← (f3 k i hk).2]
  funext q
  rw [gJ_sJ, if_neg (fun z => hk (Or.inl (by rw [z.1]; decide)))]
/-- a change: what the reference does is done by the class -/
theorem w_chg {f g : Sm → Option (Int32 × Sm)} {F : Sm → Option ((Int32 ⊕ Nat) × Sm)} {kx : Nat → Sm → Option (Int32 × Sm)} {Y : Sm} {c tu ro u pos : Nat} {P : Pm} {b : Bool} (T : Int32 → (Nat → Int32) → Prop) (h : R6 Y c P tu ro u pos b) (ef : f Y = bx (F Y) kx (fun v Y1 => wr (sJ Y1 66 0 0 v.toInt64) fun Y4 => some (nI 0, Y4)))
    (hM : ∀ W, MS Y W → ∃ v r' Z2, T v r' ∧ g W = some (v, Z2) ∧ MFr W Z2 ∧ Eq7 r' (gI Z2.1 52 0) ∧ UnR W Z2 u ∧ gI Z2.1 48 0 0 = nI 0) (hC : ∀ v r', T v r' → ∃ Z1, F Y = some (.inl v, Z1) ∧ CcS Y Z1 P r' c u pos) : Cok f g Y c := by
  have hA := h.1.a8
  obtain ⟨v0, r0, _, t0, _⟩ := hM Y MS.rf
  obtain ⟨Z1, e1, h1⟩ := hC v0 r0 t0
  obtain ⟨v, r', Z2, t1, e2, g1, g2, g3, g4⟩ := hM (sJ Z1 66 0 0 v0.toInt64) h1.1.ms.j
  obtain ⟨Z1', e3, h3⟩ := hC v r' t1
  rw [e1] at e3
  have e4 := Option.some.inj e3
  have ev : v0 = v := Sum.inl.inj (congrArg Prod.fst e4)
  have eZ : Z1 = Z1' := congrArg Prod.snd e4
  subst ev
  subst eZ
  refine ⟨nI 0, _, v0, Z2, ?_, e2, ?_, ?_, g4, fun _ => ?_, P, tu, ro, _, _, b, h.chg (h3.j hA.2.2.2) g1 g2 g3⟩
  · rw [ef, e1, bx_l, wr_t]
  · exact funext fun i => h1.1.ms 68 i (by omega) (by omega)
  · exact funext fun i => (g1.2.1 68 i (by decide)).1.trans (h1.1.ms 68 i (by omega) (by omega))
  · rw [(g1.2.1 66 0 (by decide)).2, gJ_sJ, if_pos ⟨rfl, rfl, rfl⟩]
/-- the class pushes its state -/
theorem c_push {Y : Sm} {c tu ro u pos : Nat} {P : Pm} {b : Bool} (h : R6 Y c P tu ro u pos b) : ∃ A, fn_14 0 Y = some ((), A) ∧ CcS Y A P (gI Y.1 52 0) c u pos ∧ (∀ k, ¬ k ∈ [12, 14, 15, 16, 17, 18, 19, 21, 22, 23, 24, 25, 27, 29, 30, 31, 32, 33, 34, 35, 36, 37] → gI A.1 k = gI Y.1 k) ∧ ∀ a, a ≠ (pos + 1) % 8 + 6 → A.2 a = Y.2 a := by
  obtain ⟨hK, h0, ⟨⟨p1, p2⟩, p3, p4, p5, p6⟩, _⟩ := h
  have hA := hK.a8
  obtain ⟨e0, t, q, m, s, hR, hG, ht, hs, hN⟩ := h0
  obtain ⟨A, eA, fA, cA, a1, a2⟩ := c_14 hA p1 p3 p4 p2 hG.2.1.1 hG.2.2.2.2.1 hR
  have cA0 : CR A 0 P (gI Y.1 52 0) q m := hR.frH hA.2.2.2 (by omega) fA
  have z : ∀ a, a ≠ (pos + 1) % 8 + 6 → A.2 a = Y.2 a := fun a ha => by rw [fA.1, g_sG, ug_ne (by omega)]
  refine ⟨A, eA, ⟨⟨?_, z, fun k i hk => ?_⟩, a1, a2, ⟨?_, t, q, m, s, cA0, hG, by omega, by omega, hN⟩, ⟨?_, t, q, m, s, cA, hG, by omega, by omega, hN⟩⟩, fun k hk => ?_, z⟩
  · rw [fA.1, g_sG, show (pos + 1) % 8 + 6 = (pos + 1) % 8 + 3 + 3 by omega, ug_at]
  · have hn : ¬ (S2 ((pos + 1) % 8 + 3) k i ∨ (k = 37 ∧ i = 0)) := fun w => hk (by
      rcases w with w | w
      · exact Or.inr (Or.inr w)
      · exact Or.inl (by rw [w.1]; decide))
    exact ⟨(fA.gI hn).trans (by rw [gI_sG]), (fA.gJ hn).trans (by rw [gJ_sG])⟩
  · rw [z _ (by omega), z 0 (by omega)]; exact e0
  · rw [fA.1, g_sG, ug_at, ug_ne (by omega)]; exact e0
  · funext i
    refine (fA.gI (fun w => hk ?_)).trans (by rw [gI_sG])
    rcases w with w | w
    · unfold S2 at w
      simp only [List.mem_cons, List.mem_nil_iff, or_false] at *
      omega
    · rw [w.1]; decide
/-- what comes behind the push touches state 0 alone -/
def SZ (k i : Nat) : Prop := SS 0 k i ∨ k = 46
theorem SZ_c {k i p' : Nat} (h : SZ k i) : k ∈ [37, 39, 40, 41, 43, 45, 46, 66] ∨ S2 0 k i ∨ S2 (p' + 3) k i := by
  rcases h with (h | h | h | h) | h
  · left
    simp only [List.mem_cons, List.mem_nil_iff, or_false] at *
    omega
  · exact Or.inr (Or.inl (Or.inl h))
  · exact Or.inr (Or.inl (Or.inr (Or.inl h)))
  · exact Or.inr (Or.inl (Or.inr (Or.inr h)))
  · rw [h]; exact Or.inl (by decide)
theorem SZ_ne {n k i : Nat} (hne : n ≠ 0) (h : CRk n k i) : ¬ SZ k i := by
  unfold CRk S2 at h
  unfold SZ SS
  simp only [List.mem_cons, List.mem_nil_iff, or_false] at *
  omega
theorem CcS.s {Y A Z : Sm} {P : Pm} {r r' : Nat → Int32} {c u pos : Nat} (hA : P.2.1 ≤ 8) (h : CcS Y A P r c u pos) (hF : Fr SZ A Z) (hs : St Z 0 P r' (c + 1)) : CcS Y Z P r' c u pos := by
  obtain ⟨⟨f1, f2, f3⟩, c1, c2, _, hp⟩ := h
  have e37 : gI Z.1 37 0 = gI A.1 37 0 := hF.gI (fun w => by
    unfold SZ SS at w
    simp only [List.mem_cons, List.mem_nil_iff, or_false] at w
    omega)
  refine ⟨⟨by rw [hF.1]; exact f1, fun a ha => by rw [hF.1]; exact f2 a ha, fun k i hk => ?_⟩, by rw [e37]; exact c1, by rw [e37]; exact c2, hs, hp.frk hA (by rw [hF.1]) (by rw [hF.1]) (fun k i hk => hF.gI (SZ_ne (by omega) hk)) (hF.gJ (SZ_ne (n := (pos + 1) % 8 + 3) (by omega) (Or.inr (Or.inl ⟨rfl, by decide⟩))))⟩
  have hn : ¬ SZ k i := fun w => hk (SZ_c w)
  exact ⟨(hF.gI hn).trans (f3 k i hk).1, (hF.gJ hn).trans (f3 k i hk).2⟩
