/-! a tick of a good row exists, keeps the sums, and what waits and is answered together -/
theorem WkR.ex {P : Pm} {r : Nat → Int32} {t n m s : Nat} (h : GR P r t n m s) : ∃ n' m' r', WkR P n m n' m' r r' := by
  obtain ⟨_, _, _, _, _, _, _, b2, b3, _, _⟩ := h
  by_cases h8 : r 8 = (-1 : Int32)
  · exact ⟨n, m, r, Or.inl ⟨h8, rfl, rfl, rfl⟩⟩
  · obtain ⟨i0, hi0, e0⟩ := b3.resolve_left h8
    have hs := srch_lt (p := fun j => decide (rq r j 0 = r 8)) hi0 (decide_eq_true e0)
    obtain ⟨⟨a, ha, ea⟩, ⟨k, hk, ek⟩, _, ⟨l, l1, l2, el⟩, _⟩ := b2 _ hs
    by_cases hl : l = 1
    · exact ⟨n - 1, m + 1, _, Or.inr ⟨_, a, k, l, h8, hs, rfl, ea, ha, ek, hk, el, ⟨l1, l2⟩, Or.inl ⟨hl, rfl, rfl, rfl⟩⟩⟩
    · exact ⟨n, m, _, Or.inr ⟨_, a, k, l, h8, hs, rfl, ea, ha, ek, hk, el, ⟨l1, l2⟩, Or.inr ⟨by omega, rfl, rfl, rfl⟩⟩⟩
theorem TkR.ex {P : Pm} {r : Nat → Int32} {t n m s tu ro : Nat} (h3 : 0 < P.1 ∧ P.1 ≤ 5 ∧ 0 < P.2.1 ∧ P.2.1 ≤ 8) (h : GR P r t n m s) : ∃ n' m' r', TkR P (-1 : Int32) t tu ro n m n' m' r r' ∧ GR P r' (t + 1) n' m' s := by
  have s1 : ∃ q1, VtR P (-1 : Int32) t ro r q1 ∧ GR P q1 t n m s := by
    by_cases c : t % ro = 0
    · have ho := outc_ok P r (-1 : Int32) (r 1) r
      exact ⟨_, Or.inl ⟨c, _, ho, rfl⟩, GR_ord h3.2.1 h ho⟩
    · exact ⟨r, Or.inr ⟨c, rfl⟩, h⟩
  obtain ⟨q1, v1, g1⟩ := s1
  have s2 : ∃ q2, PsR P t tu q1 q2 ∧ GR P q2 t n m s := by
    by_cases c : 0 < t ∧ t % tu = 0
    · obtain ⟨a, ha, ea⟩ := g1.2.2.2.1
      exact ⟨_, Or.inl ⟨c.1, c.2, a, ha, ea, rfl⟩, GR_pas h3.2.1 h3.2.2 g1 ea ha⟩
    · exact ⟨q1, Or.inr ⟨c, rfl⟩, g1⟩
  obtain ⟨q2, v2, g2⟩ := s2
  have s3 : ∃ q, ((q2 8 = (-1 : Int32) ∧ q = takS q2 n P.1) ∨ (q2 8 ≠ (-1 : Int32) ∧ q = q2)) ∧ GR P q t n m s := by
    by_cases c : q2 8 = (-1 : Int32)
    · exact ⟨_, Or.inl ⟨c, rfl⟩, GR_tak g2 c⟩
    · exact ⟨q2, Or.inr ⟨c, rfl⟩, g2⟩
  obtain ⟨q, v3, g3⟩ := s3
  obtain ⟨n', m', q3, v4⟩ := WkR.ex g3
  exact ⟨n', m', _, ⟨q1, q2, q3, v1, v2, ⟨q, v3, v4⟩, rfl⟩, GR_time (v4.gr h3.2.1 h3.2.2.2 g3)⟩
theorem TkN.ex {P : Pm} {r : Nat → Int32} {t n m s tu ro : Nat} (h3 : 0 < P.1 ∧ P.1 ≤ 5 ∧ 0 < P.2.1 ∧ P.2.1 ≤ 8) (h : GR P r t n m s) : ∀ k, ∃ n' m' r', TkN P tu ro t s k n m r n' m' r' ∧ GR P r' (t + k) n' m' s
  | 0 => ⟨n, m, r, TkN.z, h⟩
  | k + 1 => by
    obtain ⟨n1, m1, r1, a1, g1⟩ := TkN.ex h3 h k
    obtain ⟨n2, m2, r2, a2, g2⟩ := TkR.ex (tu := tu) (ro := ro) h3 g1
    exact ⟨n2, m2, r2, a1.snoc g1 a2, g2⟩
theorem TkR.sum {P : Pm} {t tu ro n m n' m' : Nat} {lo : Int32} {r r' : Nat → Int32} (h : TkR P lo t tu ro n m n' m' r r') : n' + m' = n + m := by
  obtain ⟨q1, q2, q3, hv, hp, ⟨q, hq, hw⟩, rfl⟩ := h
  rcases hw with ⟨_, _, rfl, rfl⟩ | ⟨i, a, k, l, _, hi, _, ea, ha, ek, hk, _, _, ⟨_, _, rfl, rfl⟩ | ⟨_, _, rfl, rfl⟩⟩
  · rfl
  · omega
  · rfl
theorem sumQ_up {x : Nat → Nat} {k n : Nat} (hk : k < n) : sumQ (fun j => if j = k then x j + 1 else x j) n = sumQ x n + 1 := by
  have e : (fun j => if j = k then x j + 1 else x j) = fun j => x j + (if j = k then 1 else 0) := by
    funext j
    by_cases q : j = k
    · rw [if_pos q, if_pos q]
    · rw [if_neg q, if_neg q]; rfl
  rw [e, sumQ_add, sumQ_one, if_pos hk]
theorem TkR.xi {P : Pm} {t tu ro n m n' m' : Nat} {lo : Int32} {r r' : Nat → Int32} (hd : P.1 ≤ 5 ∧ P.2.1 ≤ 8) (h : TkR P lo t tu ro n m n' m' r r') (hA : XI P r m) : XI P r' m' := by
  obtain ⟨q1, q2, q3, hv, hp, ⟨q, hq, hw⟩, rfl⟩ := h
  have a1 : XI P q1 m := by
    rcases hv with ⟨_, f, _, rfl⟩ | ⟨_, rfl⟩
    · have e : ∀ j, 15 ≤ j → ordS P r f j = r j := fun j hj => by
        unfold ordS
        rw [if_neg (by omega), if_neg (by omega), if_neg (by omega)]
      exact hA.cg (fun k _ => e _ (by omega)) (fun a _ => e _ (by omega)) (fun k _ => e _ (by omega))
    · exact hA
  have a2 : XI P q2 m := by
    rcases hp with ⟨_, _, x, _, _, rfl⟩ | ⟨_, rfl⟩
    · have e : ∀ j, (15 ≤ j ∧ j < 36) ∨ 44 ≤ j → pasS P q1 x j = q1 j := fun j hj => by
        unfold pasS
        rw [if_neg (by omega), if_neg (by omega), if_neg (fun z => by omega)]
      exact a1.cg (fun k _ => e _ (by omega)) (fun a _ => e _ (by omega)) (fun k _ => e _ (by omega))
    · exact a1
  have a3 : XI P q m := by
    rcases hq with ⟨_, rfl⟩ | ⟨_, rfl⟩
    · have e : ∀ j, j ≠ 8 → takS q2 n P.1 j = q2 j := fun j hj => by
        unfold takS
        cases Nat.ble P.1 (nxtN q2 n P.1) with
        | true => rfl
        | false => rw [cnd_f, upd_ne hj]
      exact a2.cg (fun k _ => e _ (by omega)) (fun a _ => e _ (by omega)) (fun k _ => e _ (by omega))
    · exact a2
  have a4 : XI P q3 m' := by
    rcases hw with ⟨_, rfl, _, rfl⟩ | ⟨i, a, k, l, _, hi, _, ea, ha, ek, hk, _, _, ⟨_, rfl, _, rfl⟩ | ⟨_, rfl, _, rfl⟩⟩
    · exact a3
    · obtain ⟨⟨x, x1, x2⟩, ⟨y, y1, y2⟩, z⟩ := a3
      refine ⟨⟨fun j => if j = k then x j + 1 else x j, fun j hj => ?_, by rw [sumQ_up hk, x2]⟩, ⟨fun j => if j = a then y j + 1 else y j, fun j hj => ?_, by rw [sumQ_up ha, y2]⟩, fun j hj => ?_⟩
      · rw [ans_lo (by omega) (by omega)]
        by_cases d : j = k
        · subst d
          unfold an0S
          simp (disch := omega) only [upd_ne, upd_at, iteN_t, iteN_f, ↓reduceIte]
          rw [x1 _ hj, nI_add]
        · rw [an0_o (by omega) (by omega) (by omega) (by omega) (by omega) (by omega) (by omega) (by omega) (by omega), upd_ne (by omega), x1 _ hj]
          show _ = nI (if j = k then x j + 1 else x j)
          rw [if_neg d]
      · rw [ans_lo (by omega) (by omega)]
        by_cases d : j = a
        · subst d
          unfold an0S
          simp (disch := omega) only [upd_ne, upd_at, iteN_t, iteN_f, ↓reduceIte]
          rw [y1 _ hj, nI_add]
        · rw [an0_o (by omega) (by omega) (by omega) (by omega) (by omega) (by omega) (by omega) (by omega) (by omega), upd_ne (by omega), y1 _ hj]
          show _ = nI (if j = a then y j + 1 else y j)
          rw [if_neg d]
      · rw [ans_lo (by omega) (by omega), an0_o (by omega) (by omega) (by omega) (by omega) (by omega) (by omega) (by omega) (by omega) (by omega), upd_ne (by omega)]
        exact z j hj
    · exact a3.cg (fun k _ => upd_ne (by omega)) (fun a _ => upd_ne (by omega)) (fun k _ => upd_ne (by omega))
  exact a4.cg (fun k _ => upd_ne (by omega)) (fun a _ => upd_ne (by omega)) (fun k _ => upd_ne (by omega))
theorem TkN.xi {P : Pm} {tu ro t s k n m n' m' : Nat} {r r' : Nat → Int32} (hd : P.1 ≤ 5 ∧ P.2.1 ≤ 8) (h : TkN P tu ro t s k n m r n' m' r') (hA : XI P r m) : XI P r' m' ∧ n' + m' = n + m := by
  obtain ⟨R, N, M, ⟨a1, a2, a3⟩, ⟨b1, b2, b3⟩, hc⟩ := h
  have key : ∀ j, j ≤ k → XI P (R j) (M j) ∧ N j + M j = n + m := fun j => by
    induction j with
    | zero => intro _; rw [a1, a2, a3]; exact ⟨hA, rfl⟩
    | succ j ih =>
      intro hj
      obtain ⟨i1, i2⟩ := ih (by omega)
      exact ⟨(hc j (by omega)).2.xi hd i1, (hc j (by omega)).2.sum.trans i2⟩
  have := key k (Nat.le_refl _)
  rw [b1, b2, b3] at this
  exact this
