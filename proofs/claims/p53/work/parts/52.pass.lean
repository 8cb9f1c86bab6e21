/-! the class's tick: passing the turn on; a request removed; the log -/
theorem c_89 {Y : Sm} {n q m a : Nat} {P : Pm} {r : Nat → Int32} (h3 : 0 < P.1 ∧ P.1 ≤ 5 ∧ 0 < P.2.1 ∧ P.2.1 ≤ 8) (hA : AccI r P.2.1) (h2 : r 2 = nI a) (ha : a < P.2.1) (h : CR Y n P r q m) : ∃ Z, fn_89 n Y = some ((), Z) ∧ Fr (SS n) Y Z ∧ CR Z n P (pasS P r a) q m := by
  have s31 : SS n 31 n := Or.inr (Or.inl ⟨rfl, by decide⟩)
  have s21 : SS n 21 n := Or.inr (Or.inl ⟨rfl, by decide⟩)
  have e3 : gI Y.1 21 n 3 = nI a := (h.a 2 (by omega)).trans h2
  have e4 : gI Y.1 21 n 4 = r 3 := h.a 3 (by omega)
  have e31 : gI Y.1 31 n a = r (36 + a) := (h.u a ha).2.2.1
  have emod : (a + 1) % P.2.1 = if P.2.1 ≤ a + 1 then 0 else a + 1 := by
    by_cases c : P.2.1 ≤ a + 1
    · rw [if_pos c, show a + 1 = P.2.1 by omega, Nat.mod_self]
    · rw [if_neg c, Nat.mod_eq_of_lt (by omega)]
  have ep : ∀ x, x ≠ 2 → x ≠ 3 → x ≠ 36 + a → pasS P r a x = r x := fun x h4 h5 h6 => by
    unfold pasS
    rw [if_neg h4, if_neg h5, if_neg (fun z => h6 z.1)]
  have hJ : ∀ W, gI W.1 21 n = gI Y.1 21 n → gI W.1 5 (W.2 (n + 3)) 3 = nI P.2.1 → fn_89_J38 n W = some ((), sI (sI W 21 n 4 (nI 0)) 21 n 3 (nI ((a + 1) % P.2.1))) := fun W w1 w2 => by
    have w2' : gI (sI W 21 n 4 (nI 0)).1 5 ((sI W 21 n 4 (nI 0)).2 (n + 3)) 3 = nI P.2.1 := by
      rw [gI_sIk (by omega)]; exact w2
    have w3 : gI (sI W 21 n 4 (nI 0)).1 21 n 3 = nI a := by rw [gI_sIv, upd_ne (by omega), w1]; exact e3
    unfold fn_89_J38
    rw [wr_t, w2', w3, nI_add, emod]
    by_cases c : P.2.1 ≤ a + 1
    · rw [iteI_le_t c (by omega), if_pos c, wr_t]
    · rw [iteI_le_f (by omega) (by omega), if_neg c, wr_t]
  have key : ∀ W, (∀ k i, ¬ (k = 31 ∧ i = n) → gI W.1 k i = gI Y.1 k i) → gJ W.1 = gJ Y.1 → W.2 = Y.2 → (∀ a', a' < P.2.1 → gI W.1 31 n a' = pasS P r a (36 + a')) → CR (sI (sI W 21 n 4 (nI 0)) 21 n 3 (nI ((a + 1) % P.2.1))) n P (pasS P r a) q m := fun W w1 w2 w3 w4 => by
    have g : ∀ k i, ¬ (k = 31 ∧ i = n) → ¬ (k = 21 ∧ i = n) → gI (sI (sI W 21 n 4 (nI 0)) 21 n 3 (nI ((a + 1) % P.2.1))).1 k i = gI Y.1 k i := fun k i z1 z2 => by
      rw [sI_sF, gI_sF, if_neg z2, sI_sF, gI_sF, if_neg z2, w1 k i z1]
    refine ⟨?_, fun x hx => ?_, h.q.cg (g _ _ (by omega) (by omega)) (g _ _ (by omega) (by omega)) (g _ _ (by omega) (by omega)) (g _ _ (by omega) (by omega)) (g _ _ (by omega) (by omega)) (g _ _ (by omega) (by omega)) (g _ _ (by omega) (by omega)) (ep 8 (by omega) (by omega) (by omega)) (ep 9 (by omega) (by omega) (by omega)) (fun j w _ _ => ep _ (by omega) (by omega) (by omega)), h.k.cg (g _ _ (by omega) (by omega)) (g _ _ (by omega) (by omega)) (g _ _ (by omega) (by omega)) (by show gJ W.1 25 n = _; rw [w2]) (fun k _ => ⟨ep _ (by omega) (by omega) (by omega), ep _ (by omega) (by omega) (by omega), ep _ (by omega) (by omega) (by omega), ep _ (by omega) (by omega) (by omega)⟩), fun a' ha' => ?_, h.b.cg (fun a _ => g _ _ (by omega) (by omega)) (fun a p _ _ => ep _ (by omega) (by omega) (by omega)), h.l.cg (g _ _ (by omega) (by omega)) (g _ _ (by omega) (by omega)) (fun x _ _ => ep x (by omega) (by omega) (by omega))⟩
    · show CP _ (W.2 (n + 3)) P
      rw [w3]
      exact h.p.cg (g _ _ (by omega) (by omega)) (g _ _ (by omega) (by omega)) (g _ _ (by omega) (by omega))
    · rw [gI_sIv, gI_sIv]
      by_cases c : x = 2
      · subst c
        rw [upd_at]
        rfl
      · by_cases d : x = 3
        · subst d
          rw [upd_ne (by omega), upd_at]
          rfl
        · rw [upd_ne (by omega), upd_ne (by omega), w1 21 n (by omega), ep x c d (by omega)]
          exact h.a x hx
    · obtain ⟨u1, u2, u3, u4, u5, u6⟩ := h.u a' ha'
      refine ⟨?_, ?_, ?_, ?_, ?_, ?_⟩
      · rw [g _ _ (by omega) (by omega), ep _ (by omega) (by omega) (by omega)]; exact u1
      · rw [g _ _ (by omega) (by omega), ep _ (by omega) (by omega) (by omega)]; exact u2
      · rw [gI_sIk (by omega), gI_sIk (by omega)]; exact w4 a' ha'
      · rw [g _ _ (by omega) (by omega), ep _ (by omega) (by omega) (by omega)]; exact u4
      · rw [g _ _ (by omega) (by omega), ep _ (by omega) (by omega) (by omega)]; exact u5
      · rw [g _ _ (by omega) (by omega), ep _ (by omega) (by omega) (by omega)]; exact u6
  unfold fn_89
  rw [e4]
  by_cases c : r 3 = nI 0
  · obtain ⟨_, _, x, hx, ex⟩ := hA a ha
    rw [if_pos c, e3]
    simp (disch := omega) only [ck_in, ix_nI, e31, ex, nI_add]
    have ev : (if nI (x + 1) < nI 99 then nI (x + 1) else nI 99) = (if nI (x + 1) ≤ nI 99 then nI (x + 1) else nI 99) := by
      rcases Nat.lt_trichotomy (x + 1) 99 with w | w | w
      · rw [iteI_lt_t w (by omega), iteI_le_t (by omega) (by omega)]
      · rw [iteI_lt_f (by omega) (by omega), iteI_le_t (by omega) (by omega), w]
      · rw [iteI_lt_f (by omega) (by omega), iteI_le_f (by omega) (by omega)]
    rw [wr_t, ev]
    refine ⟨_, hJ _ (by rw [gI_sIk (by omega)]) ?_, (Fr.sI s31).tr ((Fr.sI s21).tr (Fr.sI s21)), key _ (fun k i z => by rw [sI_sF, gI_sF, if_neg z]) rfl rfl (fun a' ha' => ?_)⟩
    · rw [gI_sIk (by omega)]; exact h.p.1.2
    · rw [gI_sIv]
      by_cases d : a' = a
      · subst d
        have hc : 36 + a' = 36 + a' ∧ r 3 = nI 0 := ⟨rfl, c⟩
        have e5 : pasS P r a' (36 + a') = (if nI (x + 1) ≤ nI 99 then nI (x + 1) else nI 99) := by
          unfold pasS
          rw [if_neg (by omega), if_neg (by omega), if_pos hc, ex, nI_add]
        rw [upd_at, e5]
      · rw [upd_ne d, ep _ (by omega) (by omega) (by omega)]
        exact (h.u a' ha').2.2.1
  · rw [if_neg c]
    refine ⟨_, hJ Y rfl h.p.1.2, (Fr.sI s21).tr (Fr.sI s21), key Y (fun _ _ _ => rfl) rfl rfl (fun a' ha' => ?_)⟩
    have : pasS P r a (36 + a') = r (36 + a') := by
      unfold pasS
      rw [if_neg (by omega), if_neg (by omega), if_neg (fun z => c z.2)]
    rw [this]
    exact (h.u a' ha').2.2.1

