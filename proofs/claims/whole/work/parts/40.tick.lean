/-! a tick of the reference -/
def SetI (P : Pm) (tu ro : Nat) : Prop := P.2.2.1 0 = nI tu ∧ P.2.2.1 1 = nI ro ∧ (1 ≤ tu ∧ tu < 2 ^ 31) ∧ (1 ≤ ro ∧ ro < 2 ^ 31)
def WkR (P : Pm) (n m n' m' : Nat) (r r' : Nat → Int32) : Prop := (r 8 = (-1 : Int32) ∧ r' = r ∧ n' = n ∧ m' = m) ∨ (∃ i a k l, r 8 ≠ (-1 : Int32) ∧ i < n ∧ srch (fun j => decide (rq r j 0 = r 8)) n = i ∧ rq r i 1 = nI a ∧ a < P.2.1 ∧ rq r i 2 = nI k ∧ k < P.1 ∧ rq r i 4 = nI l ∧ (1 ≤ l ∧ l ≤ 20) ∧ ((l = 1 ∧ r' = ansS (upd r (118 + 6 * i + 4) (nI 0)) i a k m n ∧ n' = n - 1 ∧ m' = m + 1) ∨ (2 ≤ l ∧ r' = upd r (118 + 6 * i + 4) (nI (l - 1)) ∧ n' = n ∧ m' = m)))
theorem WkR.gr {P : Pm} {n m n' m' t s : Nat} {r r' : Nat → Int32} (hC : P.1 ≤ 5) (hA : P.2.1 ≤ 8) (h : GR P r t n m s) (hw : WkR P n m n' m' r r') : GR P r' t n' m' s := by
  rcases hw with ⟨_, e, e1, e2⟩ | ⟨i, a, k, l, _, hi, hs, ea, ha, ek, hk, el, hl, ⟨_, e, e1, e2⟩ | ⟨hl2, e, e1, e2⟩⟩
  · rw [e, e1, e2]; exact h
  · rw [e, e1, e2]; exact GR_ans hC hA h hi ea ha ek hk
  · rw [e, e1, e2]; exact GR_left hC hA h hi (by omega)
theorem r_J52 {Y : Sm} {P : Pm} {r : Nat → Int32} {t n m s : Nat} (hM : MP Y P) (h : GR P r t n m s) : ∃ r' n' m', fn_205_J52 (nI t) (sF Y 52 0 r) = some ((), sF Y 52 0 (upd r' 0 (nI (t + 1)))) ∧ WkR P n m n' m' r r' := by
  have h3 := hM.2.2.1
  have hG := h
  obtain ⟨⟨a1, a2, a3, a4⟩, a5, a6, a7, a8, a9, b1, b2, b3, b4, b5⟩ := h
  unfold fn_205_J52
  rw [gI_sFs]
  by_cases c : r 8 = (-1 : Int32)
  · refine ⟨r, n, m, ?_, Or.inl ⟨c, rfl, rfl, rfl⟩⟩
    rw [if_pos c, sI_s, nI_add]
    exact wr_t
  · rw [if_neg c]
    have hx : ∃ i, i < n ∧ rq r i 0 = r 8 := by
      rcases b3 with b3 | b3
      · exact absurd b3 c
      · exact b3
    obtain ⟨i0, hi0, ei0⟩ := hx
    have hi : srch (fun j => decide (rq r j 0 = r 8)) n < n := srch_lt hi0 (decide_eq_true ei0)
    generalize hs : srch (fun j => decide (rq r j 0 = r 8)) n = i at hi
    obtain ⟨⟨a, ha, ea⟩, ⟨k, hk, ek⟩, _, ⟨l, hl1, hl2, el⟩, _, _⟩ := b2 i hi
    rw [r_worksOn a2 hi a5.1 hs ea (by omega) ek (by omega) a3 (by omega)]
    have e0 : ∀ R, bd (some ((), sF Y 52 0 R)) (fun _ Y3 => wr (sI Y3 52 0 0 (nI t + nI 1)) fun Y5 => some ((), Y5)) = some ((), sF Y 52 0 (upd R 0 (nI (t + 1)))) := fun R => by
      rw [bd_t, sI_s, nI_add]
      exact wr_t
    rw [e0]
    rcases Nat.lt_or_ge l 2 with w | w
    · have e1 : l = 1 := by omega
      have e4 : rq r i 4 - nI 1 = nI 0 := by rw [el, e1, pk_sub (by omega)]
      refine ⟨_, n - 1, m + 1, rfl, Or.inr ⟨i, a, k, l, c, hi, hs, ea, ha, ek, hk, el, ⟨hl1, hl2⟩, Or.inl ⟨e1, ?_, rfl, rfl⟩⟩⟩
      unfold wrkS
      rw [if_pos e4, e4]
    · have e4 : rq r i 4 - nI 1 = nI (l - 1) := by rw [el, pk_sub (by omega)]
      refine ⟨_, n, m, rfl, Or.inr ⟨i, a, k, l, c, hi, hs, ea, ha, ek, hk, el, ⟨hl1, hl2⟩, Or.inr ⟨w, ?_, rfl, rfl⟩⟩⟩
      unfold wrkS
      rw [e4, if_neg (fun q => by have := (nI_eq (by omega) (by omega)).mp q; omega)]
/-- taking, then working -/
def TwR (P : Pm) (n m n' m' : Nat) (r r' : Nat → Int32) : Prop := ∃ q, ((r 8 = (-1 : Int32) ∧ q = takS r n P.1) ∨ (r 8 ≠ (-1 : Int32) ∧ q = r)) ∧ WkR P n m n' m' q r'
theorem r_J37 {Y : Sm} {P : Pm} {r : Nat → Int32} {t n m s : Nat} (hM : MP Y P) (h : GR P r t n m s) : ∃ r' n' m', fn_205_J37 (nI t) (sF Y 52 0 r) = some ((), sF Y 52 0 (upd r' 0 (nI (t + 1)))) ∧ TwR P n m n' m' r r' ∧ GR P r' t n' m' s := by
  have h3 := hM.2.2.1
  unfold fn_205_J37
  rw [gI_sFs]
  by_cases c : r 8 = (-1 : Int32)
  · have h' := GR_tak h c
    obtain ⟨r', n', m', e, hw⟩ := r_J52 hM h'
    refine ⟨r', n', m', ?_, ⟨_, Or.inl ⟨c, rfl⟩, hw⟩, hw.gr h3.2.1 h3.2.2.2 h'⟩
    rw [if_pos c, r_takesNext hM h.1.2.1 h.2.2.2.2.2.2.2.1.i h.2.1.1, bd_t]
    exact e
  · obtain ⟨r', n', m', e, hw⟩ := r_J52 hM h
    refine ⟨r', n', m', ?_, ⟨_, Or.inr ⟨c, rfl⟩, hw⟩, hw.gr h3.2.1 h3.2.2.2 h⟩
    rw [if_neg c]
    exact e
def PsR (P : Pm) (t tu : Nat) (r r' : Nat → Int32) : Prop := (0 < t ∧ t % tu = 0 ∧ ∃ a, a < P.2.1 ∧ r 2 = nI a ∧ r' = pasS P r a) ∨ (¬ (0 < t ∧ t % tu = 0) ∧ r' = r)
theorem nz_nI {a : Nat} (h : 0 < a) (h2 : a < 2 ^ 31) : nz (nI a) = true := by
  unfold nz
  rw [decide_eq_true_eq]
  exact nI_ne0 (by omega) (by omega)
theorem r_J20 {Y : Sm} {P : Pm} {r : Nat → Int32} {t n m s tu ro : Nat} (hM : MP Y P) (hS : SetI P tu ro) (ht : t < 2 ^ 31) (h : GR P r t n m s) : ∃ q r' n' m', fn_205_J20 (nI t) (sF Y 52 0 r) = some ((), sF Y 52 0 (upd r' 0 (nI (t + 1)))) ∧ PsR P t tu r q ∧ TwR P n m n' m' q r' ∧ GR P r' t n' m' s := by
  have h3 := hM.2.2.1
  have hM' : MP (sF Y 52 0 r) P := hM.sF (by omega) (by omega)
  have e3 : gI (sF Y 52 0 r).1 48 0 3 = nI tu := (hM'.2.2.2.1 0 (by omega)).trans hS.1
  unfold fn_205_J20
  rw [e3]
  rcases Nat.lt_or_ge 0 t with c | c
  · have hp := hS.2.2.1
    rw [iteI_le_f c ht, ck_t (nz_nI hp.1 hp.2), pk_rem (by omega) (by omega) (by omega)]
    by_cases c2 : t % tu = 0
    · obtain ⟨a, ha, ea⟩ := h.2.2.2.1
      have h' := GR_pas h3.2.1 ⟨h3.2.2.1, h3.2.2.2⟩ h ea ha
      obtain ⟨r', n', m', e, hw⟩ := r_J37 hM h'
      refine ⟨_, r', n', m', ?_, Or.inl ⟨c, c2, a, ha, ea, rfl⟩, hw⟩
      rw [iteI_eq_t c2, r_passesOn hM ea ha, bd_t]
      exact e
    · obtain ⟨r', n', m', e, hw⟩ := r_J37 hM h
      refine ⟨_, r', n', m', ?_, Or.inr ⟨fun q => c2 q.2, rfl⟩, hw⟩
      have hlt : t % tu < tu := Nat.mod_lt _ (by omega)
      rw [iteI_eq_f c2 (by omega) (by omega)]
      exact e
  · obtain ⟨r', n', m', e, hw⟩ := r_J37 hM h
    refine ⟨_, r', n', m', ?_, Or.inr ⟨fun q => by omega, rfl⟩, hw⟩
    rw [iteI_le_t c (by omega)]
    exact e
def VtR (P : Pm) (lo : Int32) (t ro : Nat) (r r' : Nat → Int32) : Prop := (t % ro = 0 ∧ ∃ f, OutOK P r lo (r 1) f ∧ r' = ordS P r f) ∨ (t % ro ≠ 0 ∧ r' = r)
/-- a whole tick, by rows -/
def TkR (P : Pm) (lo : Int32) (t tu ro n m n' m' : Nat) (r r' : Nat → Int32) : Prop := ∃ q1 q2 q3, VtR P lo t ro r q1 ∧ PsR P t tu q1 q2 ∧ TwR P n m n' m' q2 q3 ∧ r' = upd q3 0 (nI (t + 1))
theorem r_ticks {Y : Sm} {P : Pm} {t n m s tu ro : Nat} (hM : MP Y P) (hS : SetI P tu ro) (ht : t < 2 ^ 31) (h : GR P (gI Y.1 52 0) t n m s) : ∃ f r' n' m', fn_205 Y = some ((), sF (sF Y 58 0 f) 52 0 r') ∧ TkR P (gI Y.1 48 0 19) t tu ro n m n' m' (gI Y.1 52 0) r' ∧ GR P r' (t + 1) n' m' s := by
  have h3 := hM.2.2.1
  have e4 : gI Y.1 48 0 4 = nI ro := (hM.2.2.2.1 1 (by omega)).trans hS.2.1
  have hp := hS.2.2.2
  unfold fn_205
  rw [e4, h.1.1, ck_t (nz_nI hp.1 hp.2), pk_rem (by omega) (by omega) (by omega)]
  by_cases c : t % ro = 0
  · have ho := outc_ok P (gI Y.1 52 0) (gI Y.1 48 0 19) (gI Y.1 52 0 1) (gI Y.1 58 0)
    have h' := GR_ord h3.2.1 h ho
    obtain ⟨q, r', n', m', e, hw1, hw2, hw3⟩ := r_J20 (Y := sF Y 58 0 (outc P (gI Y.1 52 0) (gI Y.1 48 0 19) (gI Y.1 52 0 1) (gI Y.1 58 0))) (hM.sF (by omega) (by omega)) hS ht h'
    refine ⟨outc P (gI Y.1 52 0) (gI Y.1 48 0 19) (gI Y.1 52 0 1) (gI Y.1 58 0), upd r' 0 (nI (t + 1)), n', m', ?_, ⟨_, q, r', Or.inl ⟨c, _, ho, rfl⟩, hw1, hw2, rfl⟩, GR_time hw3⟩
    rw [iteI_eq_t c, r_ordersAnew hM h.2.2.2.2.2.2.1, bd_t]
    exact e
  · obtain ⟨q, r', n', m', e, hw1, hw2, hw3⟩ := r_J20 hM hS ht h
    refine ⟨gI Y.1 58 0, _, n', m', ?_, ⟨_, q, r', Or.inr ⟨c, rfl⟩, hw1, hw2, rfl⟩, GR_time hw3⟩
    have hlt : t % ro < ro := Nat.mod_lt _ (by omega)
    rw [iteI_eq_f c (by omega) (by omega), sF_self]
    rw [sF_self] at e
    exact e
