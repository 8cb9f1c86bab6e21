/-! the class's tick -/
theorem LN_of {P : Pm} {r : Nat → Int32} {t n m s : Nat} (h3 : 0 < P.1 ∧ P.1 ≤ 5 ∧ 0 < P.2.1 ∧ P.2.1 ≤ 8) (h : GR P r t n m s) : LN P r n := ⟨h3, h.2.1.1, ⟨s, t, h.2.2.2.2.2.2.2.1, h.2.1.2.2⟩, h.2.2.2.2.2.2.2.2.2.1⟩
theorem c_91 {Y : Sm} {c n m n' m' t s : Nat} {P : Pm} {r r' : Nat → Int32} (h3 : 0 < P.1 ∧ P.1 ≤ 5 ∧ 0 < P.2.1 ∧ P.2.1 ≤ 8) (hG : GR P r t n m s) (hT : (m + 1) * t < 2 ^ 31) (h : CR Y c P r n m) (hw : WkR P n m n' m' r r') : ∃ Z, fn_91 c Y = some ((), Z) ∧ Fr (SS c) Y Z ∧ CR Z c P r' n' m' := by
  obtain ⟨⟨a1, a2, a3, a4⟩, a5, a6, a7, a8, a9, b1, b2, b3, b4, b5⟩ := hG
  have hq : n ≤ 40 := a5.1
  unfold fn_91
  rw [h.q.1.2, c_38 h.q a2 hq, bd_t]
  rcases hw with ⟨e8, e, e1, e2⟩ | ⟨i, a, k, l, _, hi, hs, ea, ha, ek, hk, el, hl, hcase⟩
  · have hno : srch (fun j => decide (rq r j 0 = r 8)) n = n := srch_none (fun j hj => decide_eq_false (fun z => by
      obtain ⟨_, _, _, _, _, x, hx, ex, _⟩ := b2 j hj
      rw [e8, ex] at z
      exact nI_ne_m1 (by omega) z))
    have es : sres (fun j => decide (rq r j 0 = r 8)) n = (-1 : Int32) := by
      unfold sres
      rw [hno, ble_t (Nat.le_refl _)]
      rfl
    rw [es, if_pos rfl, e, e1, e2]
    exact ⟨Y, rfl, Fr.rf, h⟩
  · have es : sres (fun j => decide (rq r j 0 = r 8)) n = nI i := by rw [sres_f (by rw [hs]; exact hi), hs]
    obtain ⟨q0, q1, q2, q3, q4, q5⟩ := h.q.2 i hi
    rw [es, if_neg (nI_ne_m1 (by omega)), ck_in (by omega) (by omega), ix_nI (by omega), q4, el, pk_sub hl.1, wr_t, gI_sIv, upd_at]
    have e : ∀ q, q ≠ 118 + 6 * i + 4 → upd r (118 + 6 * i + 4) (nI (l - 1)) q = r q := fun q hq => upd_ne hq
    have er : ∀ j w, w < 6 → w ≠ 4 → rq (upd r (118 + 6 * i + 4) (nI (l - 1))) j w = rq r j w := fun j w hw hw2 => e _ (by omega)
    have f1 : Fr (SS c) Y (sI Y 17 (c + 3) i (nI (l - 1))) := Fr.sI (Or.inr (Or.inr (Or.inl ⟨rfl, by decide⟩)))
    have g : ∀ K I, K ≠ 17 → gI (sI Y 17 (c + 3) i (nI (l - 1))).1 K I = gI Y.1 K I := fun K I hK => by rw [gI_sIk hK]
    have hC : CR (sI Y 17 (c + 3) i (nI (l - 1))) c P (upd r (118 + 6 * i + 4) (nI (l - 1))) n m := by
      refine ⟨h.p.cg (g _ _ (by omega)) (g _ _ (by omega)) (g _ _ (by omega)), h.a.cg (g _ _ (by omega)) (fun x hx => e x (by omega)), ⟨⟨?_, ?_⟩, fun j hj => ?_⟩, h.k.cg (g _ _ (by omega)) (g _ _ (by omega)) (g _ _ (by omega)) rfl (fun k _ => ⟨e _ (by omega), e _ (by omega), e _ (by omega), e _ (by omega)⟩), h.u.cg (g _ _ (by omega)) (g _ _ (by omega)) (g _ _ (by omega)) (g _ _ (by omega)) (g _ _ (by omega)) (g _ _ (by omega)) (fun x _ _ => e x (by omega)) h3.2.2.2, h.b.cg (fun a _ => g _ _ (by omega)) (fun a p _ _ => e _ (by omega)), h.l.cg (g _ _ (by omega)) (g _ _ (by omega)) (fun x _ _ => e x (by omega))⟩
      · rw [g _ _ (by omega), e 9 (by omega)]; exact h.q.1.1
      · rw [g _ _ (by omega), e 8 (by omega)]; exact h.q.1.2
      · obtain ⟨z0, z1, z2, z3, z4, z5⟩ := h.q.2 j hj
        rw [g 19 _ (by omega), g 14 _ (by omega), g 15 _ (by omega), g 16 _ (by omega), g 18 _ (by omega), gI_sIv, er j 0 (by omega) (by omega), er j 1 (by omega) (by omega), er j 2 (by omega) (by omega), er j 3 (by omega) (by omega), er j 5 (by omega) (by omega)]
        refine ⟨z0, z1, z2, z3, ?_, z5⟩
        by_cases d : j = i
        · subst d; rw [upd_at]; exact (upd_at _ _ _).symm
        · rw [upd_ne d]
          have : rq (upd r (118 + 6 * i + 4) (nI (l - 1))) j 4 = rq r j 4 := e _ (by omega)
          rw [this]; exact z4
    rcases hcase with ⟨hl1, er', e1, e2⟩ | ⟨hl2, er', e1, e2⟩
    · rw [iteI_lt_f (by omega) (by omega)]
      subst hl1
      obtain ⟨_, _, ⟨len, hlen, hlen2, elen⟩, _, ⟨u, hu, eu⟩, _⟩ := b2 i hi
      obtain ⟨Z, eZ, fZ, cZ⟩ := c_92 (i := i) (a := a) (k := k) (l := len) (u := u) (t := t) (s := s) h3 hC (by rw [e 9 (by omega)]; exact a2) hq hi (by rw [er i 1 (by omega) (by omega)]; exact ea) ha (by rw [er i 2 (by omega) (by omega)]; exact ek) hk (by rw [er i 3 (by omega) (by omega)]; exact elen) hlen2 (by rw [er i 5 (by omega) (by omega)]; exact eu) hu (by rw [e 0 (by omega)]; exact a1) (by rw [e 7 (by omega)]; exact a3) (fun x hx => by rw [e _ (by omega), e _ (by omega), e _ (by omega)]; exact b4 x hx) (fun x hx => by rw [e _ (by omega)]; exact b5 x hx) hT
      rw [er', e1, e2]
      refine ⟨Z, ?_, f1.tr fZ, cZ⟩
      rw [eZ]
      exact bd_t
    · rw [iteI_lt_t (by omega) (by omega), er', e1, e2]
      exact ⟨_, rfl, f1, hC⟩
theorem c_time {Y : Sm} {c n m t : Nat} {P : Pm} {r : Nat → Int32} (hA : P.2.1 ≤ 8) (h0 : r 0 = nI t) (h : CR Y c P r n m) : CR (sI Y 21 c 1 (gI Y.1 21 c 1 + nI 1)) c P (upd r 0 (nI (t + 1))) n m := by
  have e : ∀ q, q ≠ 0 → upd r 0 (nI (t + 1)) q = r q := fun q hq => upd_ne hq
  have g : ∀ K I, K ≠ 21 → gI (sI Y 21 c 1 (gI Y.1 21 c 1 + nI 1)).1 K I = gI Y.1 K I := fun K I hK => by rw [gI_sIk hK]
  refine ⟨h.p.cg (g _ _ (by omega)) (g _ _ (by omega)) (g _ _ (by omega)), fun x hx => ?_, h.q.cg (g _ _ (by omega)) (g _ _ (by omega)) (g _ _ (by omega)) (g _ _ (by omega)) (g _ _ (by omega)) (g _ _ (by omega)) (g _ _ (by omega)) (e 8 (by omega)) (e 9 (by omega)) (fun j w _ _ => e _ (by omega)), h.k.cg (g _ _ (by omega)) (g _ _ (by omega)) (g _ _ (by omega)) rfl (fun k _ => ⟨e _ (by omega), e _ (by omega), e _ (by omega), e _ (by omega)⟩), h.u.cg (g _ _ (by omega)) (g _ _ (by omega)) (g _ _ (by omega)) (g _ _ (by omega)) (g _ _ (by omega)) (g _ _ (by omega)) (fun x _ _ => e x (by omega)) hA, h.b.cg (fun a _ => g _ _ (by omega)) (fun a p _ _ => e _ (by omega)), h.l.cg (g _ _ (by omega)) (g _ _ (by omega)) (fun x _ _ => e x (by omega))⟩
  rw [gI_sIv]
  by_cases d : x = 0
  · subst d
    have e1 : gI Y.1 21 c 1 = nI t := (h.a 0 (by omega)).trans h0
    rw [upd_at, upd_at, e1, nI_add]
  · rw [upd_ne (by omega), e x d]
    exact h.a x hx
theorem c_J48 {Y : Sm} {c n m n' m' t s : Nat} {P : Pm} {r r' : Nat → Int32} (h3 : 0 < P.1 ∧ P.1 ≤ 5 ∧ 0 < P.2.1 ∧ P.2.1 ≤ 8) (hG : GR P r t n m s) (hT : (m + 1) * t < 2 ^ 31) (h : CR Y c P r n m) (hw : TwR P n m n' m' r r') : ∃ Z, fn_86_J48 c Y = some ((), Z) ∧ Fr (SS c) Y Z ∧ CR Z c P (upd r' 0 (nI (t + 1))) n' m' := by
  obtain ⟨q, hq, hw⟩ := hw
  have fT : ∀ Z : Sm, Fr (SS c) Z (sI Z 21 c 1 (gI Z.1 21 c 1 + nI 1)) := fun Z => Fr.sI (Or.inr (Or.inl ⟨rfl, by decide⟩))
  unfold fn_86_J48
  rw [h.q.1.2]
  rcases hq with ⟨e8, eq⟩ | ⟨e8, eq⟩
  · obtain ⟨A, eA, fA, cA⟩ := c_90 (LN_of h3 hG) hG.2.2.2.2.2.1 hG.1.2.1 h
    rw [← eq] at cA
    have hG' : GR P q t n m s := by rw [eq]; exact GR_tak hG e8
    obtain ⟨B, eB, fB, cB⟩ := c_91 h3 hG' hT cA hw
    have hB := hw.gr h3.2.1 h3.2.2.2 hG'
    refine ⟨_, ?_, fA.tr (fB.tr (fT B)), c_time h3.2.2.2 hB.1.1 cB⟩
    rw [if_pos e8, eA, bd_t, eB, bd_t, wr_t]
  · subst eq
    obtain ⟨B, eB, fB, cB⟩ := c_91 h3 hG hT h hw
    have hB := hw.gr h3.2.1 h3.2.2.2 hG
    refine ⟨_, ?_, fB.tr (fT B), c_time h3.2.2.2 hB.1.1 cB⟩
    rw [if_neg e8, eB, bd_t, wr_t]
theorem c_87 {Y : Sm} {c t d : Nat} {r : Nat → Int32} (h : CA Y c r) (h0 : r 0 = nI t) (ht : t < 2 ^ 31) (hd : 1 ≤ d ∧ d < 2 ^ 31) : fn_87 c (nI d) Y = some (bI (decide (t % d = 0)), Y) := by
  have e1 : gI Y.1 21 c 1 = nI t := (h 0 (by omega)).trans h0
  have hlt : t % d < d := Nat.mod_lt _ (by omega)
  unfold fn_87
  rw [iteI_le_f (by omega) (by omega), ck_t (nz_nI hd.1 hd.2), e1, pk_rem (by omega) (by omega) (by omega)]
  by_cases z : t % d = 0
  · rw [iteI_eq_t z, decide_eq_true z]; rfl
  · rw [iteI_eq_f z (by omega) (by omega), decide_eq_false z]; rfl
theorem c_J21 {Y : Sm} {c n m n' m' t s tu ro : Nat} {P : Pm} {r q r' : Nat → Int32} (h3 : 0 < P.1 ∧ P.1 ≤ 5 ∧ 0 < P.2.1 ∧ P.2.1 ≤ 8) (hS : SetI P tu ro) (hG : GR P r t n m s) (ht : t < 2 ^ 31) (hT : (m + 1) * t < 2 ^ 31) (h : CR Y c P r n m) (hp : PsR P t tu r q) (hw : TwR P n m n' m' q r') : ∃ Z, fn_86_J21 c Y = some ((), Z) ∧ Fr (SS c) Y Z ∧ CR Z c P (upd r' 0 (nI (t + 1))) n' m' := by
  have e1 : gI Y.1 21 c 1 = nI t := (h.a 0 (by omega)).trans hG.1.1
  have e11 : gI Y.1 11 (Y.2 (c + 3)) 0 = nI tu := (h.p.2.1 0 (by omega)).trans hS.1
  unfold fn_86_J21
  rw [e1, e11]
  rcases hp with ⟨t0, tm, a, ha, ea, eq⟩ | ⟨hn, eq⟩
  · rw [iteI_eq_f (by omega) (by omega) (by omega), c_87 h.a hG.1.1 ht hS.2.2.1, bd_t, decide_eq_true tm, if_neg (by decide)]
    obtain ⟨A, eA, fA, cA⟩ := c_89 h3 hG.2.2.2.2.2.2.2.2.2.1 ea ha h
    rw [← eq] at cA
    have hG' : GR P q t n m s := by rw [eq]; exact GR_pas h3.2.1 ⟨h3.2.2.1, h3.2.2.2⟩ hG ea ha
    obtain ⟨Z, eZ, fZ, cZ⟩ := c_J48 h3 hG' hT cA hw
    refine ⟨Z, ?_, fA.tr fZ, cZ⟩
    rw [eA, bd_t]
    exact eZ
  · subst eq
    obtain ⟨Z, eZ, fZ, cZ⟩ := c_J48 h3 hG hT h hw
    refine ⟨Z, ?_, fZ, cZ⟩
    by_cases z : t = 0
    · rw [iteI_eq_t z]; exact eZ
    · rw [iteI_eq_f z (by omega) (by omega), c_87 h.a hG.1.1 ht hS.2.2.1, bd_t, decide_eq_false (fun w => hn ⟨by omega, w⟩), if_pos (by decide)]
      exact eZ
/-- a tick of the class does what the reference's tick does -/
theorem c_86 {Y : Sm} {c n m n' m' t s tu ro : Nat} {P : Pm} {r r' : Nat → Int32} (h3 : 0 < P.1 ∧ P.1 ≤ 5 ∧ 0 < P.2.1 ∧ P.2.1 ≤ 8) (hW : WI P) (hS : SetI P tu ro) (hG : GR P r t n m s) (ht : t < 2 ^ 31) (hT : (m + 1) * t < 2 ^ 31) (h : CR Y c P r n m) (hk : TkR P (-1 : Int32) t tu ro n m n' m' r r') : ∃ Z, fn_86 c Y = some ((), Z) ∧ Fr (SS c) Y Z ∧ CR Z c P r' n' m' := by
  obtain ⟨q1, q2, q3, v, p, w, er⟩ := hk
  have e11 : gI Y.1 11 (Y.2 (c + 3)) 1 = nI ro := (h.p.2.1 1 (by omega)).trans hS.2.1
  rw [er]
  unfold fn_86
  rw [e11, c_87 h.a hG.1.1 ht hS.2.2.2, bd_t]
  rcases v with ⟨tm, f, hf, eq⟩ | ⟨tm, eq⟩
  · obtain ⟨A, eA, fA, cA⟩ := c_88 ⟨h3, hG.2.2.2.2.2.2.1, hW⟩ h rfl hf
    rw [← eq] at cA
    have hG' : GR P q1 t n m s := by rw [eq]; exact GR_ord h3.2.1 hG hf
    obtain ⟨Z, eZ, fZ, cZ⟩ := c_J21 h3 hS hG' ht hT cA p w
    refine ⟨Z, ?_, fA.tr fZ, cZ⟩
    rw [decide_eq_true tm, if_neg (by decide), eA, bd_t]
    exact eZ
  · subst eq
    obtain ⟨Z, eZ, fZ, cZ⟩ := c_J21 h3 hS hG ht hT h p w
    refine ⟨Z, ?_, fZ, cZ⟩
    rw [decide_eq_false tm, if_pos (by decide)]
    exact eZ

