/-! a state of the class holds a row -/
def CP (Y : Sm) (u : Nat) (P : Pm) : Prop := (gI Y.1 5 u 0 = nI P.1 ∧ gI Y.1 5 u 3 = nI P.2.1) ∧ (∀ j, j < 5 → gI Y.1 11 u j = P.2.2.1 j) ∧ (∀ a, a < P.2.1 → gI Y.1 10 u a = P.2.2.2 a)
def CA (Y : Sm) (n : Nat) (r : Nat → Int32) : Prop := ∀ x, x < 8 → gI Y.1 21 n (x + 1) = r x
def CQ (Y : Sm) (n : Nat) (r : Nat → Int32) (q : Nat) : Prop := (gI Y.1 12 (n + 3) 1 = r 9 ∧ gI Y.1 12 (n + 3) 2 = r 8) ∧ ∀ j, j < q → gI Y.1 19 (n + 3) j = rq r j 0 ∧ gI Y.1 14 (n + 3) j = rq r j 1 ∧ gI Y.1 15 (n + 3) j = rq r j 2 ∧ gI Y.1 16 (n + 3) j = rq r j 3 ∧ gI Y.1 17 (n + 3) j = rq r j 4 ∧ gI Y.1 18 (n + 3) j = rq r j 5
def CK (Y : Sm) (n : Nat) (C : Nat) (r : Nat → Int32) : Prop := ∀ k, k < C → gI Y.1 22 n k = r (10 + k) ∧ gI Y.1 23 n k = r (15 + k) ∧ gI Y.1 24 n k = r (68 + k) ∧ gJ Y.1 25 n k = (r (73 + k)).toInt64
def CU (Y : Sm) (n : Nat) (A : Nat) (r : Nat → Int32) : Prop := ∀ a, a < A → gI Y.1 29 n a = r (20 + a) ∧ gI Y.1 30 n a = r (28 + a) ∧ gI Y.1 31 n a = r (36 + a) ∧ gI Y.1 34 n a = r (44 + a) ∧ gI Y.1 32 n a = r (52 + a) ∧ gI Y.1 33 n a = r (60 + a)
def CB (Y : Sm) (n : Nat) (C A : Nat) (r : Nat → Int32) : Prop := ∀ a p, a < A → p < C → gI Y.1 27 (8 * n + a) p = bal r a p
def CL (Y : Sm) (n : Nat) (r : Nat → Int32) (m : Nat) : Prop := (gI Y.1 35 n 1 = nI (m % 60) ∧ gI Y.1 35 n 2 = nI (if m ≤ 60 then m else 60)) ∧ ∀ j w, j < 60 → j < m → w < 6 → gI Y.1 36 n (6 * j + w) = r (358 + 6 * j + w)
/-- the whole of it -/
def CR (Y : Sm) (n : Nat) (P : Pm) (r : Nat → Int32) (q m : Nat) : Prop := CP Y (Y.2 (n + 3)) P ∧ CA Y n r ∧ CQ Y n r q ∧ CK Y n P.1 r ∧ CU Y n P.2.1 r ∧ CB Y n P.1 P.2.1 r ∧ CL Y n r m
theorem CR.p {Y : Sm} {n : Nat} {P : Pm} {r : Nat → Int32} {q m : Nat} (h : CR Y n P r q m) : CP Y (Y.2 (n + 3)) P := h.1
theorem CR.a {Y : Sm} {n : Nat} {P : Pm} {r : Nat → Int32} {q m : Nat} (h : CR Y n P r q m) : CA Y n r := h.2.1
theorem CR.q {Y : Sm} {n : Nat} {P : Pm} {r : Nat → Int32} {q m : Nat} (h : CR Y n P r q m) : CQ Y n r q := h.2.2.1
theorem CR.k {Y : Sm} {n : Nat} {P : Pm} {r : Nat → Int32} {q m : Nat} (h : CR Y n P r q m) : CK Y n P.1 r := h.2.2.2.1
theorem CR.u {Y : Sm} {n : Nat} {P : Pm} {r : Nat → Int32} {q m : Nat} (h : CR Y n P r q m) : CU Y n P.2.1 r := h.2.2.2.2.1
theorem CR.b {Y : Sm} {n : Nat} {P : Pm} {r : Nat → Int32} {q m : Nat} (h : CR Y n P r q m) : CB Y n P.1 P.2.1 r := h.2.2.2.2.2.1
theorem CR.l {Y : Sm} {n : Nat} {P : Pm} {r : Nat → Int32} {q m : Nat} (h : CR Y n P r q m) : CL Y n r m := h.2.2.2.2.2.2
theorem CP.cg {Y Z : Sm} {u : Nat} {P : Pm} (h : CP Y u P) (e1 : gI Z.1 5 u = gI Y.1 5 u) (e2 : gI Z.1 11 u = gI Y.1 11 u) (e3 : gI Z.1 10 u = gI Y.1 10 u) : CP Z u P := by
  unfold CP at h ⊢
  rw [e1, e2, e3]; exact h
theorem CA.cg {Y Z : Sm} {n : Nat} {r r' : Nat → Int32} (h : CA Y n r) (e1 : gI Z.1 21 n = gI Y.1 21 n) (e : ∀ x, x < 8 → r' x = r x) : CA Z n r' := fun x hx => by
  rw [e1, e x hx]; exact h x hx
theorem CQ.cg {Y Z : Sm} {n q : Nat} {r r' : Nat → Int32} (h : CQ Y n r q) (e0 : gI Z.1 12 (n + 3) = gI Y.1 12 (n + 3)) (e1 : gI Z.1 19 (n + 3) = gI Y.1 19 (n + 3)) (e2 : gI Z.1 14 (n + 3) = gI Y.1 14 (n + 3)) (e3 : gI Z.1 15 (n + 3) = gI Y.1 15 (n + 3)) (e4 : gI Z.1 16 (n + 3) = gI Y.1 16 (n + 3)) (e5 : gI Z.1 17 (n + 3) = gI Y.1 17 (n + 3)) (e6 : gI Z.1 18 (n + 3) = gI Y.1 18 (n + 3)) (e8 : r' 8 = r 8) (e9 : r' 9 = r 9) (e : ∀ j w, j < q → w < 6 → rq r' j w = rq r j w) : CQ Z n r' q := by
  obtain ⟨h1, h2⟩ := h
  unfold CQ
  rw [e0, e1, e2, e3, e4, e5, e6, e8, e9]
  refine ⟨h1, fun j hj => ?_⟩
  rw [e j 0 hj (by omega), e j 1 hj (by omega), e j 2 hj (by omega), e j 3 hj (by omega), e j 4 hj (by omega), e j 5 hj (by omega)]
  exact h2 j hj
theorem CK.cg {Y Z : Sm} {n C : Nat} {r r' : Nat → Int32} (h : CK Y n C r) (e1 : gI Z.1 22 n = gI Y.1 22 n) (e2 : gI Z.1 23 n = gI Y.1 23 n) (e3 : gI Z.1 24 n = gI Y.1 24 n) (e4 : gJ Z.1 25 n = gJ Y.1 25 n) (e : ∀ k, k < C → r' (10 + k) = r (10 + k) ∧ r' (15 + k) = r (15 + k) ∧ r' (68 + k) = r (68 + k) ∧ r' (73 + k) = r (73 + k)) : CK Z n C r' := fun k hk => by
  obtain ⟨c1, c2, c3, c4⟩ := e k hk
  rw [e1, e2, e3, e4, c1, c2, c3, c4]; exact h k hk
theorem CU.cg {Y Z : Sm} {n A : Nat} {r r' : Nat → Int32} (h : CU Y n A r) (e1 : gI Z.1 29 n = gI Y.1 29 n) (e2 : gI Z.1 30 n = gI Y.1 30 n) (e3 : gI Z.1 31 n = gI Y.1 31 n) (e4 : gI Z.1 34 n = gI Y.1 34 n) (e5 : gI Z.1 32 n = gI Y.1 32 n) (e6 : gI Z.1 33 n = gI Y.1 33 n) (e : ∀ x, 20 ≤ x → x < 68 → r' x = r x) (hA : A ≤ 8) : CU Z n A r' := fun a ha => by
  rw [e1, e2, e3, e4, e5, e6, e (20 + a) (by omega) (by omega), e (28 + a) (by omega) (by omega), e (36 + a) (by omega) (by omega), e (44 + a) (by omega) (by omega), e (52 + a) (by omega) (by omega), e (60 + a) (by omega) (by omega)]
  exact h a ha
theorem CB.cg {Y Z : Sm} {n C A : Nat} {r r' : Nat → Int32} (h : CB Y n C A r) (e1 : ∀ a, a < A → gI Z.1 27 (8 * n + a) = gI Y.1 27 (8 * n + a)) (e : ∀ a p, a < A → p < C → bal r' a p = bal r a p) : CB Z n C A r' := fun a p ha hp => by
  rw [e1 a ha, e a p ha hp]; exact h a p ha hp
theorem CL.cg {Y Z : Sm} {n m : Nat} {r r' : Nat → Int32} (h : CL Y n r m) (e1 : gI Z.1 35 n = gI Y.1 35 n) (e2 : gI Z.1 36 n = gI Y.1 36 n) (e : ∀ x, 358 ≤ x → x < 718 → r' x = r x) : CL Z n r' m := by
  unfold CL
  rw [e1, e2]
  refine ⟨h.1, fun j w hj hm hw => ?_⟩
  rw [e _ (by omega) (by omega)]
  exact h.2 j w hj hm hw
theorem CR.pv {Y : Sm} {n : Nat} {P : Pm} {r : Nat → Int32} {q m : Nat} (h : CR Y n P r q m) (h3 : 0 < P.1 ∧ P.1 ≤ 5 ∧ 0 < P.2.1 ∧ P.2.1 ≤ 8) : PV Y n P r :=
  ⟨h.p.1, h3, h.p.2.1 4 (by omega), fun a ha => ⟨h.p.2.2 a ha, (h.u a ha).2.2.1⟩, h.b⟩
/-- nothing of it in the kinds that changed -/
theorem CR.fr {Y Z : Sm} {n : Nat} {P : Pm} {r : Nat → Int32} {q m : Nat} {l : List Nat} (h : CR Y n P r q m) (hA : P.2.1 ≤ 8) (hF : Fr (KS l) Y Z) (hl : ∀ k, k ∈ [5, 11, 10, 21, 12, 19, 14, 15, 16, 17, 18, 22, 23, 24, 25, 29, 30, 31, 34, 32, 33, 27, 35, 36] → ¬ k ∈ l) : CR Z n P r q m := by
  have g : ∀ k i, k ∈ [5, 11, 10, 21, 12, 19, 14, 15, 16, 17, 18, 22, 23, 24, 25, 29, 30, 31, 34, 32, 33, 27, 35, 36] → gI Z.1 k i = gI Y.1 k i := fun k i hk => hF.gI (hl k hk)
  exact ⟨by rw [hF.1]; exact h.p.cg (g _ _ (by decide)) (g _ _ (by decide)) (g _ _ (by decide)), h.a.cg (g _ _ (by decide)) (fun _ _ => rfl), h.q.cg (g _ _ (by decide)) (g _ _ (by decide)) (g _ _ (by decide)) (g _ _ (by decide)) (g _ _ (by decide)) (g _ _ (by decide)) (g _ _ (by decide)) rfl rfl (fun _ _ _ _ => rfl), h.k.cg (g _ _ (by decide)) (g _ _ (by decide)) (g _ _ (by decide)) (hF.gJ (hl _ (by decide))) (fun _ _ => ⟨rfl, rfl, rfl, rfl⟩), h.u.cg (g _ _ (by decide)) (g _ _ (by decide)) (g _ _ (by decide)) (g _ _ (by decide)) (g _ _ (by decide)) (g _ _ (by decide)) (fun _ _ _ => rfl) hA, h.b.cg (fun a ha => g _ _ (by decide)) (fun _ _ _ _ => rfl), h.l.cg (g _ _ (by decide)) (g _ _ (by decide)) (fun _ _ _ => rfl)⟩
/-- what a state's own steps may change: the poll, and this state -/
def SS (n k i : Nat) : Prop := k ∈ [39, 40, 41, 43, 45] ∨ (i = n ∧ k ∈ [21, 22, 23, 24, 25, 29, 30, 31, 32, 33, 34, 35, 36]) ∨ (i = n + 3 ∧ k ∈ [12, 14, 15, 16, 17, 18, 19]) ∨ (k = 27 ∧ 8 * n ≤ i ∧ i < 8 * n + 8)
/-- a vote -/
theorem c_88 {Y : Sm} {n : Nat} {P : Pm} {r : Nat → Int32} {lo : Int32} {q m : Nat} (hN : PN P r) (h : CR Y n P r q m) (hlo : lo = (-1 : Int32)) {f : Nat → Int32} (hf : OutOK P r lo (r 1) f) : ∃ Z, fn_88 n Y = some ((), Z) ∧ Fr (SS n) Y Z ∧ CR Z n P (ordS P r f) q m := by
  have h3 := hN.1
  obtain ⟨A, eA, hA, a1⟩ := c_25 (lo := (-1 : Int32)) (h.pv h3) hN
  have hRA : CR A n P r q m := h.fr h3.2.2.2 hA (by decide)
  have e2 : gI A.1 21 n 2 = r 1 := hRA.a 1 (by omega)
  obtain ⟨B, eB, hB, b1, b2, b3⟩ := c_30_22 (n := n) (t := r 1) rfl hN a1
  have eo : ∀ x, x ≠ 4 → x ≠ 5 → ¬ (10 ≤ x ∧ x < 10 + P.1) → ordS P r f x = r x := fun x h4 h5 h6 => by
    unfold ordS
    rw [if_neg h4, if_neg h5, if_neg h6]
  have eo2 : ∀ p, p < P.1 → ordS P r f (10 + p) = f p := fun p hp => by
    unfold ordS
    rw [if_neg (by omega), if_neg (by omega), if_pos (by omega)]
    congr 1
    omega
  have hg : ∀ k i, ¬ (k = 22 ∧ i = n) → gI B.1 k i = gI A.1 k i := fun k i hk => b1.gI hk
  have hgJ : ∀ k i, k ≠ 22 → gJ B.1 k i = gJ A.1 k i := fun k i hk => b1.gJ (fun z => hk z.1)
  have hk22 : ∀ p, p < P.1 → gI B.1 22 n p = f p := fun p hp => by
    subst hlo
    cases ha : anyS P r (-1 : Int32) with
    | true =>
      obtain ⟨row, hr⟩ := Rkd_ex (bet_sto P r (-1 : Int32) (r 1)) P.1 (Nat.le_refl _)
      obtain ⟨c1, c2⟩ := hr p hp
      have x1 := b2 ha (row p) c1
      have x2 := hf.1 ha (row p) c1
      unfold rkS at x1 x2
      rw [c2] at x1 x2
      rw [x1, x2]
    | false =>
      rw [b3 ha, hf.2 ha p hp]
      exact (hRA.k p hp).1
  refine ⟨sI (sI B 21 n 5 (nI 0)) 21 n 6 (gI A.1 21 n 6 + nI 1), ?_, ?_, ?_⟩
  · unfold fn_88
    rw [eA, bd_t, e2, eB, bd_t, wr_t, wr_t, gI_sIv, upd_ne (by omega), hg 21 n (by omega)]
  · refine ((hA.up (fun k i hk => Or.inl hk)).tr (?_ : Fr (SS n) A B)).tr (Fr.tr (Fr.sI (Or.inr (Or.inl ⟨rfl, by decide⟩))) (Fr.sI (Or.inr (Or.inl ⟨rfl, by decide⟩))))
    exact b1.up (fun k i z => Or.inr (Or.inl ⟨z.2, by rw [z.1]; decide⟩))
  · have G : ∀ k i, ¬ (k = 21 ∧ i = n) → ¬ (k = 22 ∧ i = n) → gI (sI (sI B 21 n 5 (nI 0)) 21 n 6 (gI A.1 21 n 6 + nI 1)).1 k i = gI A.1 k i := fun k i h1 h2 => by
      rw [sI_sF, gI_sF, if_neg h1, sI_sF, gI_sF, if_neg h1, hg k i h2]
    refine ⟨?_, fun x hx => ?_, hRA.q.cg (G _ _ (by omega) (by omega)) (G _ _ (by omega) (by omega)) (G _ _ (by omega) (by omega)) (G _ _ (by omega) (by omega)) (G _ _ (by omega) (by omega)) (G _ _ (by omega) (by omega)) (G _ _ (by omega) (by omega)) (eo 8 (by omega) (by omega) (by omega)) (eo 9 (by omega) (by omega) (by omega)) (fun j w _ _ => eo _ (by omega) (by omega) (by omega)), fun k hk => ⟨?_, ?_, ?_, ?_⟩, hRA.u.cg (G _ _ (by omega) (by omega)) (G _ _ (by omega) (by omega)) (G _ _ (by omega) (by omega)) (G _ _ (by omega) (by omega)) (G _ _ (by omega) (by omega)) (G _ _ (by omega) (by omega)) (fun x _ _ => eo x (by omega) (by omega) (by omega)) h3.2.2.2, hRA.b.cg (fun a _ => G _ _ (by omega) (by omega)) (fun a p _ _ => eo _ (by omega) (by omega) (by omega)), hRA.l.cg (G _ _ (by omega) (by omega)) (G _ _ (by omega) (by omega)) (fun x _ _ => eo x (by omega) (by omega) (by omega))⟩
    · show CP _ (B.2 (n + 3)) P
      rw [hB.1]
      exact hRA.p.cg (G _ _ (by omega) (by omega)) (G _ _ (by omega) (by omega)) (G _ _ (by omega) (by omega))
    · rw [gI_sIv, gI_sIv, hg 21 n (by omega)]
      by_cases c5 : x = 5
      · subst c5
        rw [upd_at, hRA.a 5 (by omega)]
        unfold ordS
        rw [if_neg (by omega), if_pos rfl]
      · by_cases c4 : x = 4
        · subst c4
          rw [upd_ne (by omega), upd_at]
          unfold ordS
          rw [if_pos rfl]
        · rw [upd_ne (by omega), upd_ne (by omega), eo x c4 c5 (by omega)]
          exact hRA.a x hx
    · rw [gI_sIk (by omega), gI_sIk (by omega), hk22 k hk, eo2 k hk]
    · rw [G _ _ (by omega) (by omega), eo _ (by omega) (by omega) (by omega)]
      exact (hRA.k k hk).2.1
    · rw [G _ _ (by omega) (by omega), eo _ (by omega) (by omega) (by omega)]
      exact (hRA.k k hk).2.2.1
    · rw [eo _ (by omega) (by omega) (by omega)]
      exact (congrFun (hgJ 25 n (by omega)) k).trans (hRA.k k hk).2.2.2

