/-! other states are left alone; the history -/
def CRk (n k i : Nat) : Prop := k ∈ [5, 10, 11] ∨ S2 n k i
theorem CR.frk {Y Z : Sm} {n q m : Nat} {P : Pm} {r : Nat → Int32} (hA : P.2.1 ≤ 8) (h : CR Y n P r q m) (hG : Z.2 (n + 3) = Y.2 (n + 3)) (hI : ∀ k i, CRk n k i → gI Z.1 k i = gI Y.1 k i) (hJ : gJ Z.1 25 n = gJ Y.1 25 n) : CR Z n P r q m := by
  have a : ∀ k, k ∈ [21, 22, 23, 24, 25, 29, 30, 31, 32, 33, 34, 35, 36] → gI Z.1 k n = gI Y.1 k n := fun k hk => hI k n (Or.inr (Or.inl ⟨rfl, hk⟩))
  have b : ∀ k, k ∈ [12, 14, 15, 16, 17, 18, 19] → gI Z.1 k (n + 3) = gI Y.1 k (n + 3) := fun k hk => hI k (n + 3) (Or.inr (Or.inr (Or.inl ⟨rfl, hk⟩)))
  refine ⟨?_, h.a.cg (a _ (by decide)) (fun _ _ => rfl), h.q.cg (b _ (by decide)) (b _ (by decide)) (b _ (by decide)) (b _ (by decide)) (b _ (by decide)) (b _ (by decide)) (b _ (by decide)) rfl rfl (fun _ _ _ _ => rfl), h.k.cg (a _ (by decide)) (a _ (by decide)) (a _ (by decide)) hJ (fun _ _ => ⟨rfl, rfl, rfl, rfl⟩), h.u.cg (a _ (by decide)) (a _ (by decide)) (a _ (by decide)) (a _ (by decide)) (a _ (by decide)) (a _ (by decide)) (fun _ _ _ => rfl) hA, h.b.cg (fun x hx => hI 27 _ (Or.inr (Or.inr (Or.inr ⟨rfl, by omega, by omega⟩)))) (fun _ _ _ _ => rfl), h.l.cg (a _ (by decide)) (a _ (by decide)) (fun _ _ _ => rfl)⟩
  rw [hG]
  exact h.p.cg (hI 5 _ (Or.inl (by decide))) (hI 11 _ (Or.inl (by decide))) (hI 10 _ (Or.inl (by decide)))
theorem S2_ne {n n0 k i : Nat} (hne : n ≠ n0) (h : CRk n k i) : ¬ S2 n0 k i := by
  unfold CRk S2 at *
  simp only [List.mem_cons, List.mem_nil_iff, or_false] at *
  omega
theorem SS_ne {n n0 k i : Nat} (hne : n ≠ n0) (h : CRk n k i) : ¬ SS n0 k i := by
  unfold CRk S2 at h
  unfold SS
  simp only [List.mem_cons, List.mem_nil_iff, or_false] at *
  omega
theorem CR.frC {Y Z : Sm} {n n0 v q m : Nat} {P : Pm} {r : Nat → Int32} (hA : P.2.1 ≤ 8) (h : CR Y n P r q m) (hne : n ≠ n0) (hF : Fr (S2 n0) (sG Y (n0 + 3) v) Z) : CR Z n P r q m :=
  h.frk hA (by rw [hF.1, g_sG, ug_ne (by omega)]) (fun k i hk => (hF.gI (S2_ne hne hk)).trans (by rw [gI_sG])) ((hF.gJ (S2_ne hne (Or.inr (Or.inl ⟨rfl, by decide⟩)))).trans (by rw [gJ_sG]))
theorem CR.frS {Y Z : Sm} {n n0 q m : Nat} {P : Pm} {r : Nat → Int32} (hA : P.2.1 ≤ 8) (h : CR Y n P r q m) (hne : n ≠ n0) (hF : Fr (SS n0) Y Z) : CR Z n P r q m :=
  h.frk hA (by rw [hF.1]) (fun k i hk => hF.gI (SS_ne hne hk)) (hF.gJ (SS_ne hne (Or.inr (Or.inl ⟨rfl, by decide⟩))))
/-- rows that agree on their 718 places -/
def Eq7 (r r' : Nat → Int32) : Prop := ∀ q, q < 718 → r' q = r q
theorem RqG.c7 {r r' : Nat → Int32} {C A n s t : Nat} (h : RqG r C A n s t) (e : Eq7 r r') (hn : n ≤ 40) : RqG r' C A n s t := h.cg (fun j w hj hw => e _ (by omega))
theorem GR.c7 {P : Pm} {r r' : Nat → Int32} {t n m s : Nat} (h3 : P.1 ≤ 5 ∧ P.2.1 ≤ 8) (h : GR P r t n m s) (e : Eq7 r r') : GR P r' t n m s := by
  obtain ⟨⟨a1, a2, a3, a4⟩, a5, a6, a7, a8, a9, b1, b2, b3, b4, b5⟩ := h
  unfold GR
  rw [e 0 (by omega), e 9 (by omega), e 7 (by omega), e 6 (by omega), e 1 (by omega), e 2 (by omega), e 3 (by omega), e 8 (by omega)]
  refine ⟨⟨a1, a2, a3, a4⟩, a5, a6, a7, a8, ?_, b1.cg (fun a p _ _ => e _ (by omega)), b2.c7 e a5.1, ?_, fun a ha => ?_, fun k hk => ?_⟩
  · refine ⟨fun k hk => ?_, fun p hp => ?_⟩
    · obtain ⟨p, hp, q⟩ := a9.1 k hk
      exact ⟨p, hp, (e (10 + p) (by omega)).trans q⟩
    · obtain ⟨k, hk, q⟩ := a9.2 p hp
      exact ⟨k, hk, (e (10 + p) (by omega)).trans q⟩
  · rcases b3 with b3 | ⟨i, hi, q⟩
    · exact Or.inl b3
    · exact Or.inr ⟨i, hi, (e _ (by omega)).trans q⟩
  · rw [e _ (by omega), e _ (by omega), e _ (by omega)]; exact b4 a ha
  · rw [e _ (by omega)]; exact b5 k hk
theorem CR.c7 {Y : Sm} {n q m : Nat} {P : Pm} {r r' : Nat → Int32} (h3 : P.1 ≤ 5 ∧ P.2.1 ≤ 8) (hq : q ≤ 40) (h : CR Y n P r q m) (e : Eq7 r r') : CR Y n P r' q m :=
  ⟨h.p, h.a.cg rfl (fun x hx => e x (by omega)), h.q.cg rfl rfl rfl rfl rfl rfl rfl (e 8 (by omega)) (e 9 (by omega)) (fun j w hj hw => e _ (by omega)), h.k.cg rfl rfl rfl rfl (fun k hk => ⟨e _ (by omega), e _ (by omega), e _ (by omega), e _ (by omega)⟩), h.u.cg rfl rfl rfl rfl rfl rfl (fun x _ hx => e x (by omega)) h3.2, h.b.cg (fun _ _ => rfl) (fun a p _ _ => e _ (by omega)), h.l.cg rfl rfl (fun x _ hx => e x hx)⟩
/-- the class's history: pos its last place, u its size -/
def hx (pos u j : Nat) : Nat := (pos + 9 + j - u) % 8 + 3
theorem c_14 {Y : Sm} {pos u q m : Nat} {P : Pm} {r : Nat → Int32} (h3 : 0 < P.1 ∧ P.1 ≤ 5 ∧ 0 < P.2.1 ∧ P.2.1 ≤ 8) (hp : pos < 8) (h1 : gI Y.1 37 0 1 = nI pos) (h2 : gI Y.1 37 0 2 = nI u) (hu : u ≤ 8) (hq : q ≤ 40) (hb : r 3 = nI 0 ∨ r 3 = nI 1) (h : CR Y 0 P r q m) : ∃ Z, fn_14 0 Y = some ((), Z) ∧ Fr (fun k i => S2 ((pos + 1) % 8 + 3) k i ∨ (k = 37 ∧ i = 0)) (sG Y ((pos + 1) % 8 + 3 + 3) (Y.2 3)) Z ∧ CR Z ((pos + 1) % 8 + 3) P r q m ∧ gI Z.1 37 0 1 = nI ((pos + 1) % 8) ∧ gI Z.1 37 0 2 = nI (if u + 1 ≤ 8 then u + 1 else 8) := by
  have key : ∀ t0, t0 < 8 → ∃ Z, fn_14_J22 0 (nI t0) Y = some ((), Z) ∧ Fr (fun k i => S2 (t0 + 3) k i ∨ (k = 37 ∧ i = 0)) (sG Y (t0 + 3 + 3) (Y.2 3)) Z ∧ CR Z (t0 + 3) P r q m ∧ gI Z.1 37 0 1 = nI t0 ∧ gI Z.1 37 0 2 = nI (if u + 1 ≤ 8 then u + 1 else 8) := fun t0 ht => by
    have hA : CR (sI Y 37 0 1 (nI t0)) 0 P r q m := h.frk h3.2.2.2 rfl (fun k i hk => by
      rw [gI_sIk (fun z => by
        subst z
        unfold CRk S2 at hk
        simp only [List.mem_cons, List.mem_nil_iff, or_false] at hk
        omega)]) rfl
    obtain ⟨Z, eZ, fZ, cZ⟩ := c_72 (i0 := t0 + 3) (i1 := 0) (by omega) h3 hq hb hA
    have e37 : gI Z.1 37 0 = gI (sI Y 37 0 1 (nI t0)).1 37 0 := (fZ.gI (fun z => by
      unfold S2 at z
      simp only [List.mem_cons, List.mem_nil_iff, or_false] at z
      omega)).trans (by rw [gI_sG])
    have e2 : gI Z.1 37 0 2 = nI u := by rw [e37, gI_sIv, upd_ne (by omega)]; exact h2
    have ez : (if nI 8 < nI (u + 1) then nI 8 else nI (u + 1)) = nI (if u + 1 ≤ 8 then u + 1 else 8) := by
      rcases Nat.lt_or_ge 8 (u + 1) with w | w
      · rw [iteI_lt_t w (by omega), if_neg (by omega)]
      · rw [iteI_lt_f w (by omega), if_pos w]
    refine ⟨sI Z 37 0 2 (nI (if u + 1 ≤ 8 then u + 1 else 8)), ?_, ?_, ?_, ?_, ?_⟩
    · unfold fn_14_J22
      rw [wr_t, gI_sIv, upd_at, ck_in (by omega) (by omega), ix_nI (by omega), eZ, bd_t, e2, nI_add, ez, wr_t]
    · have f0 : Fr (fun k i => S2 (t0 + 3) k i ∨ (k = 37 ∧ i = 0)) (sG Y (t0 + 3 + 3) ((sI Y 37 0 1 (nI t0)).2 (0 + 3))) (sG (sI Y 37 0 1 (nI t0)) (t0 + 3 + 3) ((sI Y 37 0 1 (nI t0)).2 (0 + 3))) := by
        refine ⟨rfl, fun k i hk => ⟨?_, ?_⟩⟩
        · rw [gI_sG, gI_sG, sI_sF, gI_sF, if_neg (fun z => hk (Or.inr z))]
        · rfl
      exact f0.tr ((fZ.up (fun k i z => Or.inl z)).tr (Fr.sI (Or.inr ⟨rfl, rfl⟩)))
    · exact cZ.frk h3.2.2.2 rfl (fun k i hk => by
        rw [gI_sIk (fun z => by
          subst z
          unfold CRk S2 at hk
          simp only [List.mem_cons, List.mem_nil_iff, or_false] at hk
          omega)]) rfl
    · rw [gI_sIv, upd_ne (by omega), e37, gI_sIv, upd_at]
    · rw [gI_sIv, upd_at]
  unfold fn_14
  rw [h1, nI_add]
  rcases Nat.lt_or_ge (pos + 1) 8 with w | w
  · rw [iteI_le_f w (by omega), Nat.mod_eq_of_lt w]
    exact key (pos + 1) w
  · rw [iteI_le_t w (by omega), show (pos + 1) % 8 = 0 by omega]
    exact key 0 (by omega)

