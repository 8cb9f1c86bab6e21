/-! the class's tick: an answer -/
theorem gJ_sJv {Y : Sm} {k i j : Nat} {v : Int64} : gJ (sJ Y k i j v).1 k i = fun p => if p = j then v else gJ Y.1 k i p := by
  funext p
  rw [gJ_sJ]
  by_cases c : p = j
  · rw [if_pos ⟨rfl, rfl, c⟩, if_pos c]
  · rw [if_neg (fun z => c z.2.2), if_neg c]
def lgW (Y : Sm) (n e z : Nat) (v0 v1 v2 v3 T S : Int32) : Sm := sI (sI (sI (sI (sI (sI (sI (sI Y 36 n (e * 6) v0) 36 n (e * 6 + 1) v1) 36 n (e * 6 + 2) v2) 36 n (e * 6 + 3) v3) 36 n (e * 6 + 4) T) 36 n (e * 6 + 5) S) 35 n 1 (nI ((e + 1) % 60))) 35 n 2 (nI (if z + 1 ≤ 60 then z + 1 else 60))
theorem c_11 {Y : Sm} {n i e z : Nat} {v0 v1 v2 v3 T S : Int32} (hi : i < 40) (h1 : gI Y.1 35 n 1 = nI e) (he : e < 60) (h2 : gI Y.1 35 n 2 = nI z) (hz : z ≤ 60) (w0 : gI Y.1 19 (n + 3) i = v0) (w1 : gI Y.1 14 (n + 3) i = v1) (w2 : gI Y.1 15 (n + 3) i = v2) (w3 : gI Y.1 18 (n + 3) i = v3) : fn_11 n (n + 3) (nI i) T S Y = some ((), lgW Y n e z v0 v1 v2 v3 T S) := by
  unfold fn_11
  rw [h1]
  simp (disch := omega) only [ck_in, ix_nI, pk_mul, nI_add, pk_sub, iteI_le_t, iteI_le_f, iteI_lt_t, iteI_lt_f, iteI_eq_t, iteI_eq_f, bd_t, wr_t, ite_m1_f, ite_m1_t, ↓reduceIte, gI_sIk, gI_sIv, upd_ne, upd_at, iteN_t, iteN_f, ↓reduceIte, h1, h2, w0, w1, w2, w3]
  rw [pk_rem (by omega) (by omega) (by omega)]
  have e2 : (if nI 60 < nI (z + 1) then nI 60 else nI (z + 1)) = nI (if z + 1 ≤ 60 then z + 1 else 60) := by
    rcases Nat.lt_or_ge 60 (z + 1) with w | w
    · rw [iteI_lt_t w (by omega), if_neg (by omega)]
    · rw [iteI_lt_f w (by omega), if_pos w]
  rw [e2]
  rfl
theorem to64_add {v d : Nat} (h : v + d < 2 ^ 31) : (nI v).toInt64 + (nI d).toInt64 = (nI (v + d)).toInt64 := by
  apply Int64.toInt_inj.mp
  rw [Int64.toInt_add, Int32.toInt_toInt64, Int32.toInt_toInt64, Int32.toInt_toInt64, nI_toInt (by omega), nI_toInt (by omega), nI_toInt (by omega)]
  unfold Int.bmod
  simp only
  split <;> omega
set_option maxHeartbeats 1000000 in
theorem c_92 {Y : Sm} {n q m i a k l u t s : Nat} {P : Pm} {r : Nat → Int32} (h3 : 0 < P.1 ∧ P.1 ≤ 5 ∧ 0 < P.2.1 ∧ P.2.1 ≤ 8) (h : CR Y n P r q m) (h9 : r 9 = nI q) (hq : q ≤ 40) (hi : i < q) (ea : rq r i 1 = nI a) (ha : a < P.2.1) (ek : rq r i 2 = nI k) (hk : k < P.1) (el : rq r i 3 = nI l) (hl : l ≤ 20) (eu : rq r i 5 = nI u) (hu : u ≤ t) (e0 : r 0 = nI t) (e7 : r 7 = nI m) (hA : AccI r P.2.1) (hW : WtI r P.1 m t) (hT : (m + 1) * t < 2 ^ 31) : ∃ Z, fn_92 n (nI i) Y = some ((), Z) ∧ Fr (SS n) Y Z ∧ CR Z n P (ansS r i a k m q) (q - 1) (m + 1) := by
  obtain ⟨⟨x, hx, ex⟩, ⟨d, hd, ed⟩, _⟩ := hA a ha
  obtain ⟨v, hv, ev⟩ := hW k hk
  have hm1 : (m + 1) * t = m * t + t := Nat.succ_mul m t
  obtain ⟨q0, q1, q2, q3, q4, q5⟩ := h.q.2 i hi
  obtain ⟨u1, u2, _, _, u5, u6⟩ := h.u a ha
  obtain ⟨k1, k2, k3, k4⟩ := h.k k hk
  have hm60 : m % 60 < 60 := Nat.mod_lt _ (by omega)
  have y1 : (if d ≤ l then d else l) ≤ d := by split <;> omega
  have y2 : (if d ≤ l then d else l) ≤ l := by split <;> omega
  have est : stS r i a = nI (if d ≤ l then d else l) := by
    unfold stS
    rw [ed, el]
    rcases Nat.lt_or_ge l d with w | w
    · rw [iteI_le_f (by omega) (by omega), if_neg (by omega)]
    · rw [iteI_le_t (by omega) (by omega), if_pos (by omega)]
  have h7 := c_7 (Y := Y) (n := n) (by omega : a < 8) (u2.trans ed) (u1.trans ex) hd hx hl
  generalize hy : (if d ≤ l then d else l) = y at y1 y2 est h7
  generalize hc : (if x + l - y ≤ 999 then x + l - y else 999) = cr at h7
  have hcr : cr ≤ 999 := by rw [← hc]; split <;> omega
  have ecr : (if crS r i a ≤ nI 999 then crS r i a else nI 999) = nI cr := by
    have : crS r i a = nI (x + l - y) := by
      unfold crS
      rw [est, ex, el, nI_add, pk_sub (by omega)]
    rw [this, ← hc]
    rcases Nat.lt_or_ge 999 (x + l - y) with w | w
    · rw [iteI_le_f w (by omega), if_neg (by omega)]
    · rw [iteI_le_t w (by omega), if_pos w]
  generalize hY2 : sI (sI (sI (sI Y 30 n a (nI (d - y))) 29 n a (nI cr)) 32 n a (gI Y.1 32 n a + nI 1)) 33 n a (gI Y.1 33 n a + nI l) = Y2 at h7
  have g2 : ∀ K I, ¬ (I = n ∧ K ∈ [29, 30, 32, 33]) → gI Y2.1 K I = gI Y.1 K I := fun K I hK => by
    rw [← hY2, sI_sF, gI_sF, if_neg (fun z => hK ⟨z.2, by rw [z.1]; decide⟩), sI_sF, gI_sF, if_neg (fun z => hK ⟨z.2, by rw [z.1]; decide⟩), sI_sF, gI_sF, if_neg (fun z => hK ⟨z.2, by rw [z.1]; decide⟩), sI_sF, gI_sF, if_neg (fun z => hK ⟨z.2, by rw [z.1]; decide⟩)]
  have gJ2 : gJ Y2.1 = gJ Y.1 := by rw [← hY2]; rfl
  have gG2 : Y2.2 = Y.2 := by rw [← hY2]; rfl
  have v30 : gI Y2.1 30 n = upd (gI Y.1 30 n) a (nI (d - y)) := by rw [← hY2]; simp (disch := omega) only [gI_sIk, gI_sIv]
  have v29 : gI Y2.1 29 n = upd (gI Y.1 29 n) a (nI cr) := by rw [← hY2]; simp (disch := omega) only [gI_sIk, gI_sIv]
  have v32 : gI Y2.1 32 n = upd (gI Y.1 32 n) a (r (52 + a) + nI 1) := by rw [← hY2]; simp (disch := omega) only [gI_sIk, gI_sIv, u5]
  have v33 : gI Y2.1 33 n = upd (gI Y.1 33 n) a (r (60 + a) + nI l) := by rw [← hY2]; simp (disch := omega) only [gI_sIk, gI_sIv, u6]
  have f2 : Fr (SS n) Y Y2 := by
    rw [← hY2]
    exact (Fr.sI (Or.inr (Or.inl ⟨rfl, by decide⟩))).tr ((Fr.sI (Or.inr (Or.inl ⟨rfl, by decide⟩))).tr ((Fr.sI (Or.inr (Or.inl ⟨rfl, by decide⟩))).tr (Fr.sI (Or.inr (Or.inl ⟨rfl, by decide⟩)))))
  have e21 : gI Y.1 21 n 1 = nI t := (h.a 0 (by omega)).trans e0
  have e28 : gI Y.1 21 n 8 = nI m := (h.a 7 (by omega)).trans e7
  generalize hY8 : sI (sJ (sI Y2 24 n k (r (68 + k) + nI 1)) 25 n k ((nI (v + (t - u))).toInt64)) 21 n 8 (nI (m + 1)) = Y8
  have g8 : ∀ K I, ¬ (I = n ∧ K ∈ [21, 24, 29, 30, 32, 33]) → gI Y8.1 K I = gI Y.1 K I := fun K I hK => by
    rw [← hY8, sI_sF, gI_sF, if_neg (fun z => hK ⟨z.2, by rw [z.1]; decide⟩), gI_sJ, sI_sF, gI_sF, if_neg (fun z => hK ⟨z.2, by rw [z.1]; decide⟩), g2 K I (fun z => hK ⟨z.1, by
      have := z.2
      simp only [List.mem_cons, List.mem_nil_iff, or_false] at this ⊢
      omega⟩)]
  have n8 : ∀ K I, (K ∈ [35, 36] ∧ I = n) ∨ I = n + 3 → gI Y8.1 K I = gI Y.1 K I := fun K I hK => g8 K I (fun z => by
    have z2 := z.2
    simp only [List.mem_cons, List.mem_nil_iff, or_false] at z2 hK
    omega)
  have h11 := c_11 (Y := Y8) (n := n) (i := i) (e := m % 60) (z := if m ≤ 60 then m else 60) (v0 := rq r i 0) (v1 := nI a) (v2 := nI k) (v3 := nI u) (T := nI t) (S := nI y) (by omega) (by rw [n8 _ _ (Or.inl ⟨by decide, rfl⟩)]; exact h.l.1.1) hm60 (by rw [n8 _ _ (Or.inl ⟨by decide, rfl⟩)]; exact h.l.1.2) (by split <;> omega) (by rw [n8 _ _ (Or.inr rfl)]; exact q0) (by rw [n8 _ _ (Or.inr rfl)]; exact q1.trans ea) (by rw [n8 _ _ (Or.inr rfl)]; exact q2.trans ek) (by rw [n8 _ _ (Or.inr rfl)]; exact q5.trans eu)
  have s1 : ∀ K, K ∈ [21, 22, 23, 24, 25, 29, 30, 31, 32, 33, 34, 35, 36] → SS n K n := fun K hK => Or.inr (Or.inl ⟨rfl, hK⟩)
  have f8 : Fr (SS n) Y Y8 := by
    rw [← hY8]
    exact f2.tr ((Fr.sI (s1 24 (by decide))).tr ((Fr.sJ (s1 25 (by decide))).tr (Fr.sI (s1 21 (by decide)))))
  generalize hz : (if m ≤ 60 then m else 60) = z at h11
  generalize hY9 : lgW Y8 n (m % 60) z (rq r i 0) (nI a) (nI k) (nI u) (nI t) (nI y) = Y9 at h11
  have f9 : Fr (SS n) Y8 Y9 := by
    rw [← hY9]
    unfold lgW
    exact (Fr.sI (s1 36 (by decide))).tr ((Fr.sI (s1 36 (by decide))).tr ((Fr.sI (s1 36 (by decide))).tr ((Fr.sI (s1 36 (by decide))).tr ((Fr.sI (s1 36 (by decide))).tr ((Fr.sI (s1 36 (by decide))).tr ((Fr.sI (s1 35 (by decide))).tr (Fr.sI (s1 35 (by decide)))))))))
  have g9 : ∀ K I, ¬ (K ∈ [35, 36] ∧ I = n) → gI Y9.1 K I = gI Y8.1 K I := fun K I hK => by
    have a5 : ¬ (K = 35 ∧ I = n) := fun z => hK ⟨by rw [z.1]; decide, z.2⟩
    have a6 : ¬ (K = 36 ∧ I = n) := fun z => hK ⟨by rw [z.1]; decide, z.2⟩
    rw [← hY9]
    unfold lgW
    rw [sI_sF, gI_sF, if_neg a5, sI_sF, gI_sF, if_neg a5, sI_sF, gI_sF, if_neg a6, sI_sF, gI_sF, if_neg a6, sI_sF, gI_sF, if_neg a6, sI_sF, gI_sF, if_neg a6, sI_sF, gI_sF, if_neg a6, sI_sF, gI_sF, if_neg a6]
  have gJ9 : gJ Y9.1 = gJ Y8.1 := by rw [← hY9]; rfl
  have gG9 : Y9.2 = Y.2 := by rw [← hY9, ← gG2, ← hY8]; rfl
  generalize hWW : sI Y9 12 (n + 3) 2 (-1 : Int32) = W
  have fW : Fr (SS n) Y W := by
    rw [← hWW]
    exact f8.tr (f9.tr (Fr.sI (Or.inr (Or.inr (Or.inl ⟨rfl, by decide⟩)))))
  have gW : ∀ K I, ¬ (I = n ∧ K ∈ [21, 24, 29, 30, 32, 33, 35, 36]) → ¬ (K = 12 ∧ I = n + 3) → gI W.1 K I = gI Y.1 K I := fun K I z1 z2 => by
    have z3 : ¬ (K ∈ [35, 36] ∧ I = n) := fun z => z1 ⟨z.2, by
      have := z.1
      simp only [List.mem_cons, List.mem_nil_iff, or_false] at this ⊢
      omega⟩
    have z4 : ¬ (I = n ∧ K ∈ [21, 24, 29, 30, 32, 33]) := fun z => z1 ⟨z.1, by
      have := z.2
      simp only [List.mem_cons, List.mem_nil_iff, or_false] at this ⊢
      omega⟩
    rw [← hWW, sI_sF, gI_sF, if_neg z2, g9 K I z3, g8 K I z4]
  have gW2 : ∀ K, ¬ K ∈ [12, 35, 36] → gI W.1 K n = gI Y8.1 K n := fun K hK => by
    have z3 : ¬ (K ∈ [35, 36] ∧ n = n) := fun z => hK (by
      have := z.1
      simp only [List.mem_cons, List.mem_nil_iff, or_false] at this ⊢
      omega)
    rw [← hWW, sI_sF, gI_sF, if_neg (fun z => hK (by rw [z.1]; decide)), g9 K n z3]
  have x21 : gI W.1 21 n = upd (gI Y.1 21 n) 8 (nI (m + 1)) := by
    rw [gW2 21 (by decide), ← hY8, gI_sIv, gI_sJ, gI_sIk (by omega), g2 21 n (fun z => absurd z.2 (by decide))]
  have x24 : gI W.1 24 n = upd (gI Y.1 24 n) k (r (68 + k) + nI 1) := by
    rw [gW2 24 (by decide), ← hY8, gI_sIk (by omega), gI_sJ, gI_sIv, g2 24 n (fun z => absurd z.2 (by decide))]
  have x8 : ∀ K, K ∈ [29, 30, 32, 33] → gI W.1 K n = gI Y2.1 K n := fun K hK => by
    have hK' := hK
    simp only [List.mem_cons, List.mem_nil_iff, or_false] at hK'
    rw [gW2 K (fun z => by
      simp only [List.mem_cons, List.mem_nil_iff, or_false] at z
      omega), ← hY8, gI_sIk (by omega), gI_sJ, gI_sIk (by omega)]
  have xJ : gJ W.1 25 n = fun p => if p = k then (nI (v + (t - u))).toInt64 else gJ Y.1 25 n p := by
    rw [← hWW, gJ_sI, gJ9, ← hY8, gJ_sI, gJ_sJv, gJ_sI, gJ2]
  have x12 : gI W.1 12 (n + 3) = upd (gI Y.1 12 (n + 3)) 2 (-1 : Int32) := by
    rw [← hWW, gI_sIv, g9 12 (n + 3) (fun z => absurd z.1 (by decide)), g8 12 (n + 3) (fun z => absurd z.2 (by decide))]
  have c28 : an0S r i a k m (28 + a) = nI (d - y) := by
    unfold an0S
    simp (disch := omega) only [upd_ne, upd_at, iteN_t, iteN_f, ↓reduceIte]
    rw [ed, est, pk_sub (by omega)]
  have c20 : an0S r i a k m (20 + a) = nI cr := by
    unfold an0S
    simp (disch := omega) only [upd_ne, upd_at, iteN_t, iteN_f, ↓reduceIte]
    exact ecr
  have c52 : an0S r i a k m (52 + a) = r (52 + a) + nI 1 := by
    unfold an0S
    simp (disch := omega) only [upd_ne, upd_at, iteN_t, iteN_f, ↓reduceIte]
  have c60 : an0S r i a k m (60 + a) = r (60 + a) + nI l := by
    unfold an0S
    simp (disch := omega) only [upd_ne, upd_at, iteN_t, iteN_f, ↓reduceIte]
    rw [el]
  have c68 : an0S r i a k m (68 + k) = r (68 + k) + nI 1 := by
    unfold an0S
    simp (disch := omega) only [upd_ne, upd_at, iteN_t, iteN_f, ↓reduceIte]
  have c73 : an0S r i a k m (73 + k) = nI (v + (t - u)) := by
    unfold an0S
    simp (disch := omega) only [upd_ne, upd_at, iteN_t, iteN_f, ↓reduceIte]
    rw [ev, e0, eu, nI_add, pk_sub (by omega), show v + t - u = v + (t - u) by omega]
  have cW : CR W n P (an0S r i a k m) q (m + 1) := by
    have gn : ∀ K I, ¬ K ∈ [12, 21, 24, 29, 30, 32, 33, 35, 36] → gI W.1 K I = gI Y.1 K I := fun K I hK => gW K I (fun z => hK (by
      have := z.2
      simp only [List.mem_cons, List.mem_nil_iff, or_false] at this ⊢
      omega)) (fun z => hK (by rw [z.1]; decide))
    refine ⟨?_, fun p hp => ?_, ⟨⟨?_, ?_⟩, fun j hj => ?_⟩, fun k' hk' => ?_, fun a' ha' => ?_, h.b.cg (fun a' _ => gn _ _ (by decide)) (fun a' p _ _ => an0_o (by omega) (by omega) (by omega) (by omega) (by omega) (by omega) (by omega) (by omega) (by omega)), ⟨⟨?_, ?_⟩, fun j w hj hjm hw => ?_⟩⟩
    · have : W.2 = Y.2 := by rw [← hWW]; exact gG9
      rw [this]
      exact h.p.cg (gn _ _ (by decide)) (gn _ _ (by decide)) (gn _ _ (by decide))
    · rw [x21]
      by_cases c : p = 7
      · subst c
        rw [upd_at]
        unfold an0S
        simp (disch := omega) only [upd_ne, upd_at, iteN_t, iteN_f, ↓reduceIte]
        rw [e7, nI_add]
      · rw [upd_ne (by omega), an0_o (by omega) (by omega) (by omega) (by omega) (by omega) (by omega) (by omega) (by omega) (by omega)]
        exact h.a p hp
    · rw [x12, upd_ne (by omega), an0_o (by omega) (by omega) (by omega) (by omega) (by omega) (by omega) (by omega) (by omega) (by omega)]
      exact h.q.1.1
    · rw [x12, upd_at]
      unfold an0S
      simp (disch := omega) only [upd_ne, upd_at, iteN_t, iteN_f, ↓reduceIte]
    · rw [an0_rq (by omega) (by omega) (by omega) (by omega), an0_rq (by omega) (by omega) (by omega) (by omega), an0_rq (by omega) (by omega) (by omega) (by omega), an0_rq (by omega) (by omega) (by omega) (by omega), an0_rq (by omega) (by omega) (by omega) (by omega), an0_rq (by omega) (by omega) (by omega) (by omega), gn _ _ (by decide), gn _ _ (by decide), gn _ _ (by decide), gn _ _ (by decide), gn _ _ (by decide), gn _ _ (by decide)]
      exact h.q.2 j hj
    · obtain ⟨z1, z2, z3, z4⟩ := h.k k' hk'
      rw [gn _ _ (by decide), gn _ _ (by decide), x24, xJ, an0_o (q := 10 + k') (by omega) (by omega) (by omega) (by omega) (by omega) (by omega) (by omega) (by omega) (by omega), an0_o (q := 15 + k') (by omega) (by omega) (by omega) (by omega) (by omega) (by omega) (by omega) (by omega) (by omega)]
      refine ⟨z1, z2, ?_, ?_⟩
      · by_cases c : k' = k
        · subst c; rw [upd_at, c68]
        · rw [upd_ne c, an0_o (by omega) (by omega) (by omega) (by omega) (by omega) (by omega) (by omega) (by omega) (by omega)]; exact z3
      · by_cases c : k' = k
        · subst c
          show (if k' = k' then _ else _) = _
          rw [if_pos rfl, c73]
        · show (if k' = k then _ else _) = _
          rw [if_neg c, an0_o (by omega) (by omega) (by omega) (by omega) (by omega) (by omega) (by omega) (by omega) (by omega)]; exact z4
    · obtain ⟨z1, z2, z3, z4, z5, z6⟩ := h.u a' ha'
      rw [x8 29 (by decide), x8 30 (by decide), x8 32 (by decide), x8 33 (by decide), gn 31 n (by decide), gn 34 n (by decide), v29, v30, v32, v33, an0_o (q := 36 + a') (by omega) (by omega) (by omega) (by omega) (by omega) (by omega) (by omega) (by omega) (by omega), an0_o (q := 44 + a') (by omega) (by omega) (by omega) (by omega) (by omega) (by omega) (by omega) (by omega) (by omega)]
      by_cases c : a' = a
      · subst c
        rw [upd_at, upd_at, upd_at, upd_at, c20, c28, c52, c60]
        exact ⟨rfl, rfl, z3, z4, rfl, rfl⟩
      · rw [upd_ne c, upd_ne c, upd_ne c, upd_ne c, an0_o (q := 20 + a') (by omega) (by omega) (by omega) (by omega) (by omega) (by omega) (by omega) (by omega) (by omega), an0_o (q := 28 + a') (by omega) (by omega) (by omega) (by omega) (by omega) (by omega) (by omega) (by omega) (by omega), an0_o (q := 52 + a') (by omega) (by omega) (by omega) (by omega) (by omega) (by omega) (by omega) (by omega) (by omega), an0_o (q := 60 + a') (by omega) (by omega) (by omega) (by omega) (by omega) (by omega) (by omega) (by omega) (by omega)]
        exact ⟨z1, z2, z3, z4, z5, z6⟩
    · rw [← hWW, gI_sIk (by omega), ← hY9]
      unfold lgW
      rw [gI_sIv, upd_ne (by omega), gI_sIv, upd_at, show (m % 60 + 1) % 60 = (m + 1) % 60 by omega]
    · rw [← hWW, gI_sIk (by omega), ← hY9]
      unfold lgW
      rw [gI_sIv, upd_at, ← hz]
      congr 1
      (repeat' split) <;> omega
    · have e36 : gI W.1 36 n = upd (upd (upd (upd (upd (upd (gI Y.1 36 n) (m % 60 * 6) (rq r i 0)) (m % 60 * 6 + 1) (nI a)) (m % 60 * 6 + 2) (nI k)) (m % 60 * 6 + 3) (nI u)) (m % 60 * 6 + 4) (nI t)) (m % 60 * 6 + 5) (nI y) := by
        rw [← hWW, gI_sIk (by omega), ← hY9]
        unfold lgW
        simp (disch := omega) only [gI_sIk, gI_sIv]
        rw [n8 36 n (Or.inl ⟨by decide, rfl⟩)]
      rw [e36]
      by_cases c : j = m % 60
      · subst c
        unfold an0S
        have hw' : w = 0 ∨ w = 1 ∨ w = 2 ∨ w = 3 ∨ w = 4 ∨ w = 5 := by omega
        rcases hw' with rfl | rfl | rfl | rfl | rfl | rfl
        · rw [show 6 * (m % 60) + 0 = m % 60 * 6 by omega]
          simp (disch := omega) only [upd_ne, upd_at, iteN_t, iteN_f, ↓reduceIte]
        · rw [show 6 * (m % 60) + 1 = m % 60 * 6 + 1 by omega]
          simp (disch := omega) only [upd_ne, upd_at, iteN_t, iteN_f, ↓reduceIte]
        · rw [show 6 * (m % 60) + 2 = m % 60 * 6 + 2 by omega]
          simp (disch := omega) only [upd_ne, upd_at, iteN_t, iteN_f, ↓reduceIte]
        · rw [show 6 * (m % 60) + 3 = m % 60 * 6 + 3 by omega]
          simp (disch := omega) only [upd_ne, upd_at, iteN_t, iteN_f, ↓reduceIte, eu]
        · rw [show 6 * (m % 60) + 4 = m % 60 * 6 + 4 by omega]
          simp (disch := omega) only [upd_ne, upd_at, iteN_t, iteN_f, ↓reduceIte, e0]
        · rw [show 6 * (m % 60) + 5 = m % 60 * 6 + 5 by omega]
          simp (disch := omega) only [upd_ne, upd_at, iteN_t, iteN_f, ↓reduceIte, est]
      · have hj' : j < m := by omega
        rw [upd_ne (by omega), upd_ne (by omega), upd_ne (by omega), upd_ne (by omega), upd_ne (by omega), upd_ne (by omega), h.l.2 j w hj hj' hw]
        unfold an0S
        simp (disch := omega) only [upd_ne, upd_at, iteN_t, iteN_f, ↓reduceIte]
  have h9' : an0S r i a k m 9 = nI q := by
    rw [an0_o (by omega) (by omega) (by omega) (by omega) (by omega) (by omega) (by omega) (by omega) (by omega)]; exact h9
  obtain ⟨Z, eZ, fZ, qZ⟩ := c_37 cW.q h9' hq hi
  have fZ' : Fr (SS n) W Z := fZ.up (fun K I z => Or.inr (Or.inr (Or.inl z)))
  have gZ : ∀ K I, ¬ K ∈ [12, 14, 15, 16, 17, 18, 19] → gI Z.1 K I = gI W.1 K I := fun K I hK => fZ.gI (fun z => hK z.2)
  have rl : ∀ p, p < 118 → p ≠ 9 → ansS r i a k m q p = an0S r i a k m p := fun p z1 z2 => ans_lo z1 z2
  refine ⟨Z, ?_, fW.tr fZ', ?_⟩
  · have e18 : gI Y8.1 21 n 1 = nI t := by
      rw [← hY8, gI_sIv, upd_ne (by omega), gI_sJ, gI_sIk (by omega), g2 21 n (fun z => absurd z.2 (by decide))]
      exact e21
    unfold fn_92
    rw [ck_in (by omega) (by omega), ix_nI (by omega), q1.trans ea, q3.trans el, h7, bd_t, q2.trans ek, ck_in (by omega) (by omega), ix_nI (by omega)]
    have y24 : gI Y2.1 24 n k = r (68 + k) := by rw [g2 24 n (fun z => absurd z.2 (by decide))]; exact k3
    have y25 : gJ Y2.1 25 n k = (nI v).toInt64 := by rw [gJ2, k4, ev]
    have y21 : gI Y2.1 21 n = gI Y.1 21 n := g2 21 n (fun z => absurd z.2 (by decide))
    have y18 : gI Y2.1 18 (n + 3) i = nI u := by rw [g2 18 (n + 3) (fun z => absurd z.2 (by decide))]; exact q5.trans eu
    rw [y24, wr_t, gI_sIk (by omega), gI_sIk (by omega), gJ_sI, y25, y21, y18, e21, pk_sub (by omega), to64_add (by omega), wr_t, gI_sJ, gI_sIk (by omega), y21, e28, nI_add, wr_t, hY8, e18, h11, bd_t, wr_t, hWW, eZ]
    exact bd_t
  · refine ⟨?_, cW.a.cg (gZ _ _ (by decide)) (fun p hp => rl p (by omega) (by omega)), qZ, cW.k.cg (gZ _ _ (by decide)) (gZ _ _ (by decide)) (gZ _ _ (by decide)) (fZ.gJ (fun z => absurd z.2 (by decide))) (fun k' _ => ⟨rl _ (by omega) (by omega), rl _ (by omega) (by omega), rl _ (by omega) (by omega), rl _ (by omega) (by omega)⟩), cW.u.cg (gZ _ _ (by decide)) (gZ _ _ (by decide)) (gZ _ _ (by decide)) (gZ _ _ (by decide)) (gZ _ _ (by decide)) (gZ _ _ (by decide)) (fun p _ _ => rl p (by omega) (by omega)) h3.2.2.2, cW.b.cg (fun a' _ => gZ _ _ (by decide)) (fun a' p _ _ => rl _ (by omega) (by omega)), cW.l.cg (gZ _ _ (by decide)) (gZ _ _ (by decide)) (fun p z1 z2 => ?_)⟩
    · rw [fZ.1]
      exact cW.p.cg (gZ _ _ (by decide)) (gZ _ _ (by decide)) (gZ _ _ (by decide))
    · unfold ansS remS
      rw [if_neg (by omega), upd_ne (by omega)]

