/-! vetoes -/
def maxS (x : Int32) : Int32 := if nI 0 ≤ x then x else nI 0
theorem max_c (x : Int32) : (if nI 0 < x then x else nI 0) = maxS x := by
  unfold maxS
  by_cases h : nI 0 < x
  · rw [if_pos h, if_pos (Int32.le_of_lt h)]
  · rw [if_neg h]
    by_cases h2 : nI 0 ≤ x
    · rw [if_pos h2]
      exact Int32.le_antisymm h2 (Int32.not_lt.mp h)
    · rw [if_neg h2]
theorem max_sub {p x : Nat} (hp : p < 2 ^ 30) (hx : x < 2 ^ 30) : maxS (nI p - nI x) = nI (p - x) := by
  rw [← max_c]
  by_cases h : x < p
  · rw [if_pos ((sub_lt0 hp hx).mpr h), pk_sub (by omega)]
  · rw [if_neg (fun q => h ((sub_lt0 hp hx).mp q)), show p - x = 0 by omega]
def dbS (P : Pm) (r : Nat → Int32) (a : Nat) : Int32 := r (28 + a) + maxS (P.2.2.1 2 - r (20 + a))
def crV (P : Pm) (r : Nat → Int32) (a : Nat) : Int32 := maxS (r (20 + a) - P.2.2.1 2)
def canV (P : Pm) (r : Nat → Int32) (a k : Nat) : Bool := !hasS (r 4) (nI k) && decide (dbS P r a ≤ P.2.2.1 3)
def vetS (P : Pm) (r : Nat → Int32) (a k : Nat) : Nat → Int32 := upd (upd (upd (upd r (28 + a) (dbS P r a)) (20 + a) (crV P r a)) 4 (r 4 ||| (nI 1 <<< (nI k &&& 31)))) (44 + a) (r (44 + a) + nI 1)
theorem vetS_o {P : Pm} {r : Nat → Int32} {a k q : Nat} (h1 : q ≠ 28 + a) (h2 : q ≠ 20 + a) (h3 : q ≠ 4) (h4 : q ≠ 44 + a) : vetS P r a k q = r q := by
  unfold vetS
  rw [upd_ne h4, upd_ne h3, upd_ne h2, upd_ne h1]
theorem vetS_d {P : Pm} {r : Nat → Int32} {a k : Nat} (ha : a < 8) : vetS P r a k (28 + a) = dbS P r a := by
  unfold vetS
  rw [upd_ne (by omega), upd_ne (by omega), upd_ne (by omega), upd_at]
theorem vetS_c {P : Pm} {r : Nat → Int32} {a k : Nat} (ha : a < 8) : vetS P r a k (20 + a) = crV P r a := by
  unfold vetS
  rw [upd_ne (by omega), upd_ne (by omega), upd_at]
theorem vetS_4 {P : Pm} {r : Nat → Int32} {a k : Nat} : vetS P r a k 4 = r 4 ||| (nI 1 <<< (nI k &&& 31)) := by
  unfold vetS
  rw [upd_ne (by omega), upd_at]
theorem vetS_v {P : Pm} {r : Nat → Int32} {a k : Nat} : vetS P r a k (44 + a) = r (44 + a) + nI 1 := by
  unfold vetS
  rw [upd_at]
/-- prices and lines are small -/
def PrI (P : Pm) : Prop := (∃ x, x ≤ 99 ∧ P.2.2.1 2 = nI x) ∧ ∃ x, x ≤ 99 ∧ P.2.2.1 3 = nI x
theorem R6.pr {Y : Sm} {c tu ro u pos : Nat} {P : Pm} {b : Bool} (h : R6 Y c P tu ro u pos b) : PrI P := h.1.2.2.2.2.2
theorem GR.vet {P : Pm} {r : Nat → Int32} {t n m s a k : Nat} (hd : P.1 ≤ 5 ∧ P.2.1 ≤ 8) (hp : PrI P) (h : GR P r t n m s) (ha : a < P.2.1) (hv : canV P r a k = true) : GR P (vetS P r a k) t n m s := by
  have e : ∀ q, q ≠ 28 + a → q ≠ 20 + a → q ≠ 4 → q ≠ 44 + a → vetS P r a k q = r q := fun q => vetS_o
  have hA := h.2.2.2.2.2.2.2.2.2.1
  refine h.of (e _ (by omega) (by omega) (by omega) (by omega)) (e _ (by omega) (by omega) (by omega) (by omega)) (e _ (by omega) (by omega) (by omega) (by omega)) (e _ (by omega) (by omega) (by omega) (by omega)) (e _ (by omega) (by omega) (by omega) (by omega)) (by rw [e 1 (by omega) (by omega) (by omega) (by omega)]; exact h.2.2.1) (e _ (by omega) (by omega) (by omega) (by omega)) (by rw [e 3 (by omega) (by omega) (by omega) (by omega)]; exact h.2.2.2.2.1) (fun p _ => e _ (by omega) (by omega) (by omega) (by omega)) (h.2.2.2.2.2.2.1.cg (fun a p _ _ => e _ (by omega) (by omega) (by omega) (by omega))) (fun j w _ _ => e _ (by omega) (by omega) (by omega) (by omega)) (fun a' ha' => ?_) (fun k _ => e _ (by omega) (by omega) (by omega) (by omega))
  by_cases d : a' = a
  · subst d
    obtain ⟨⟨x, hx, ex⟩, ⟨y, hy, ey⟩, hz⟩ := hA a' ha'
    obtain ⟨⟨p, hp1, ep⟩, l, hl, el⟩ := hp
    obtain ⟨_, v2⟩ := Bool.and_eq_true_iff.mp hv
    have v2 := of_decide_eq_true v2
    have edb : dbS P r a' = nI (y + (p - x)) := by
      unfold dbS
      rw [ep, ex, ey, max_sub (by omega) (by omega), nI_add]
    rw [edb, el] at v2
    have hle : y + (p - x) ≤ l := by
      rcases Nat.lt_or_ge l (y + (p - x)) with g | g
      · exact absurd v2 (nI_ge g (by omega))
      · exact g
    rw [vetS_c (by omega), vetS_d (by omega), e (36 + a') (by omega) (by omega) (by omega) (by omega), edb]
    refine ⟨⟨x - p, by omega, ?_⟩, ⟨_, by omega, rfl⟩, hz⟩
    unfold crV
    rw [ep, ex, max_sub (by omega) (by omega)]
  · rw [e _ (by omega) (by omega) (by omega) (by omega), e _ (by omega) (by omega) (by omega) (by omega), e _ (by omega) (by omega) (by omega) (by omega)]
    exact hA a' ha'
theorem c_83 {Y : Sm} {n q m a k : Nat} {P : Pm} {r : Nat → Int32} (hR : CR Y n P r q m) (ha : a < P.2.1) (ha8 : a < 8) (hk : k < 5) : fn_83 n (nI a) (nI k) Y = some (bI (canV P r a k), Y) := by
  obtain ⟨q1, q2, _⟩ := hR.u a ha
  unfold fn_83 fn_4
  rw [c_74 hR.a hk, bd_t, bI_0]
  unfold canV
  cases hasS (r 4) (nI k) with
  | true => rfl
  | false =>
    rw [cnd_f, ck_in ha8 (by omega), ix_nI (by omega), bd_t, q1, q2, hR.p.2.1 2 (by omega), hR.p.2.1 3 (by omega), max_c]
    show (if P.2.2.1 3 < dbS P r a then _ else _) = _
    by_cases g : P.2.2.1 3 < dbS P r a
    · rw [if_pos g, decide_eq_false (Int32.not_le.mpr g)]; rfl
    · rw [if_neg g, decide_eq_true (Int32.not_lt.mp g)]; rfl
theorem r_217 {W : Sm} {P : Pm} {r : Nat → Int32} {a : Nat} (hM : MP W P) (e : gI W.1 52 0 = r) (ha : a < 8) : fn_217 (nI a) W = some (dbS P r a, W) := by
  have p5 : gI W.1 48 0 5 = P.2.2.1 2 := hM.2.2.2.1 2 (by omega)
  unfold fn_217
  rw [nI_add, nI_add, ck_in (by omega) (by omega), ck_in (by omega) (by omega), ix_nI (by omega), ix_nI (by omega), e, p5, r_greater, bd_t]
  rfl
theorem r_218 {W : Sm} {P : Pm} {r : Nat → Int32} {a k : Nat} (hM : MP W P) (e : gI W.1 52 0 = r) (ha : a < 8) : fn_218 (nI a) (nI k) W = some (bI (canV P r a k), W) := by
  have p6 : gI W.1 48 0 6 = P.2.2.1 3 := hM.2.2.2.1 3 (by omega)
  unfold fn_218
  rw [r_has, e, bd_t, bI_0]
  unfold canV
  cases hasS (r 4) (nI k) with
  | true => rfl
  | false =>
    rw [cnd_f, r_217 hM e ha, bd_t, p6]
    by_cases g : P.2.2.1 3 < dbS P r a
    · rw [if_pos g, decide_eq_false (Int32.not_le.mpr g)]; rfl
    · rw [if_neg g, decide_eq_true (Int32.not_lt.mp g)]; rfl
theorem r_219 {W : Sm} {P : Pm} {r : Nat → Int32} {a k : Nat} (hM : MP W P) (e : gI W.1 52 0 = r) (ha : a < 8) : fn_219 (nI a) (nI k) W = some (dbS P r a, sF W 52 0 (vetS P r a k)) := by
  have p5 : gI W.1 48 0 5 = P.2.2.1 2 := hM.2.2.2.1 2 (by omega)
  unfold fn_219
  rw [r_217 hM e ha, bd_t]
  simp (disch := omega) only [ck_in, ix_nI, pk_mul, nI_add, pk_sub, iteI_le_t, iteI_le_f, iteI_lt_t, iteI_lt_f, iteI_eq_t, iteI_eq_f, bd_t, wr_t, ite_m1_f, ite_m1_t, ↓reduceIte, r_greater, gI_sIk, gI_sIv, e, p5, upd_ne, upd_at, iteN_t, iteN_f, ↓reduceIte]
  rw [sI_sI, sI_sI, gI_sFs, sF_sF, e]
  rfl
/-- the class takes a veto -/
theorem c_84 {Y : Sm} {n q m a k : Nat} {P : Pm} {r : Nat → Int32} (h3 : 0 < P.1 ∧ P.1 ≤ 5 ∧ 0 < P.2.1 ∧ P.2.1 ≤ 8) (hR : CR Y n P r q m) (ha : a < P.2.1) : ∃ Z, fn_84 n (nI a) (nI k) Y = some ((), Z) ∧ Fr (SS n) Y Z ∧ CR Z n P (vetS P r a k) q m := by
  obtain ⟨u1, u2, u3, u4, u5, u6⟩ := hR.u a ha
  have e5 := hR.a 4 (by omega)
  generalize hZ : sI (sI (sI (sI Y 30 n a (dbS P r a)) 29 n a (crV P r a)) 34 n a (r (44 + a) + nI 1)) 21 n 5 (r 4 ||| (nI 1 <<< (nI k &&& 31))) = Z
  have fZ : Fr (SS n) Y Z := by
    rw [← hZ]
    exact (Fr.sI (Or.inr (Or.inl ⟨rfl, by decide⟩))).tr ((Fr.sI (Or.inr (Or.inl ⟨rfl, by decide⟩))).tr ((Fr.sI (Or.inr (Or.inl ⟨rfl, by decide⟩))).tr (Fr.sI (Or.inr (Or.inl ⟨rfl, by decide⟩)))))
  have G : ∀ j i, j ≠ 30 → j ≠ 29 → j ≠ 34 → j ≠ 21 → gI Z.1 j i = gI Y.1 j i := fun j i h1 h2 h3 h4 => by rw [← hZ, gI_sIk h4, gI_sIk h3, gI_sIk h2, gI_sIk h1]
  have e : ∀ q, q ≠ 28 + a → q ≠ 20 + a → q ≠ 4 → q ≠ 44 + a → vetS P r a k q = r q := fun q => vetS_o
  refine ⟨Z, ?_, fZ, ?_, fun x hx => ?_, hR.q.cg (G _ _ (by omega) (by omega) (by omega) (by omega)) (G _ _ (by omega) (by omega) (by omega) (by omega)) (G _ _ (by omega) (by omega) (by omega) (by omega)) (G _ _ (by omega) (by omega) (by omega) (by omega)) (G _ _ (by omega) (by omega) (by omega) (by omega)) (G _ _ (by omega) (by omega) (by omega) (by omega)) (G _ _ (by omega) (by omega) (by omega) (by omega)) (e 8 (by omega) (by omega) (by omega) (by omega)) (e 9 (by omega) (by omega) (by omega) (by omega)) (fun j w _ _ => e _ (by omega) (by omega) (by omega) (by omega)), hR.k.cg (G _ _ (by omega) (by omega) (by omega) (by omega)) (G _ _ (by omega) (by omega) (by omega) (by omega)) (G _ _ (by omega) (by omega) (by omega) (by omega)) (by rw [← hZ]; rfl) (fun j _ => ⟨e _ (by omega) (by omega) (by omega) (by omega), e _ (by omega) (by omega) (by omega) (by omega), e _ (by omega) (by omega) (by omega) (by omega), e _ (by omega) (by omega) (by omega) (by omega)⟩), fun j hj => ?_, hR.b.cg (fun _ _ => G _ _ (by omega) (by omega) (by omega) (by omega)) (fun a p _ _ => e _ (by omega) (by omega) (by omega) (by omega)), hR.l.cg (G _ _ (by omega) (by omega) (by omega) (by omega)) (G _ _ (by omega) (by omega) (by omega) (by omega)) (fun x _ _ => e _ (by omega) (by omega) (by omega) (by omega))⟩
  · unfold fn_84 fn_5 fn_4
    rw [ck_in (by omega) (by omega), ix_nI (by omega), u1, u2, hR.p.2.1 2 (by omega), max_c]
    rw [show r (28 + a) + maxS (P.2.2.1 2 - r (20 + a)) = dbS P r a from rfl, bd_t, ck_in (by omega) (by omega), wr_t, gI_sIk (by omega), u1, max_c]
    rw [show maxS (r (20 + a) - P.2.2.1 2) = crV P r a from rfl, wr_t, gI_sIk (by omega), gI_sIk (by omega), u4, wr_t, bd_t, gI_sIk (by omega), gI_sIk (by omega), gI_sIk (by omega), e5, wr_t, hZ]
  · rw [fZ.1]
    exact hR.p.cg (G _ _ (by omega) (by omega) (by omega) (by omega)) (G _ _ (by omega) (by omega) (by omega) (by omega)) (G _ _ (by omega) (by omega) (by omega) (by omega))
  · rw [← hZ, gI_sIv, gI_sIk (by omega), gI_sIk (by omega), gI_sIk (by omega)]
    by_cases d : x = 4
    · rw [d, upd_at, vetS_4]
    · rw [upd_ne (by omega), e x (by omega) (by omega) d (by omega)]
      exact hR.a x hx
  · obtain ⟨q1, q2, q3, q4, q5, q6⟩ := hR.u j hj
    rw [G 31 _ (by omega) (by omega) (by omega) (by omega), G 32 _ (by omega) (by omega) (by omega) (by omega), G 33 _ (by omega) (by omega) (by omega) (by omega), e (36 + j) (by omega) (by omega) (by omega) (by omega), e (52 + j) (by omega) (by omega) (by omega) (by omega), e (60 + j) (by omega) (by omega) (by omega) (by omega)]
    refine ⟨?_, ?_, q3, ?_, q5, q6⟩
    · rw [← hZ, gI_sIk (by omega), gI_sIk (by omega), gI_sIv, gI_sIk (by omega)]
      by_cases d : j = a
      · rw [d, upd_at, vetS_c (by omega)]
      · rw [upd_ne d, e _ (by omega) (by omega) (by omega) (by omega)]; exact q1
    · rw [← hZ, gI_sIk (by omega), gI_sIk (by omega), gI_sIk (by omega), gI_sIv]
      by_cases d : j = a
      · rw [d, upd_at, vetS_d (by omega)]
      · rw [upd_ne d, e _ (by omega) (by omega) (by omega) (by omega)]; exact q2
    · rw [← hZ, gI_sIk (by omega), gI_sIv, gI_sIk (by omega), gI_sIk (by omega)]
      by_cases d : j = a
      · rw [d, upd_at, vetS_v]
      · rw [upd_ne d, e _ (by omega) (by omega) (by omega) (by omega)]; exact q4
theorem ok_34 {Y : Sm} {c : Nat} (a p : Int32) (h : RR Y c) : Cok (fn_322 a p) (fn_220 a p) Y c := by
  obtain ⟨P, tu, ro, u, pos, b, h⟩ := h
  have h3 := h.1.a8
  obtain ⟨e0, t0, n0, m0, s0, hR0, hG0, _⟩ := h.cl
  cases hb : inb a P.2.1 with
  | false =>
    refine w_exc (F := fn_138 a p) (x := 0) (k := nI 1) h rfl (by decide) (fun _ => if_pos rfl) ⟨Y, ?_, QC.rf⟩ (fun W hq e => ⟨nI 0, sI W 48 0 0 (nI 1), ?_, QM.told, told_at⟩)
    · unfold fn_138
      rw [h.c154, hb, cnd_f, bx_r]
    · unfold fn_220 fn_220_J21 fn_220_J22
      rw [(h.mw hq e).ask, hb, g_if, cnd_f, g_is0]
  | true =>
    obtain ⟨x, hx, rfl⟩ := inb_of hb (by omega)
    cases hc : inb p P.1 with
    | false =>
      refine w_exc (F := fn_138 (nI x) p) (x := 0) (k := nI 1) h rfl (by decide) (fun _ => if_pos rfl) ⟨Y, ?_, QC.rf⟩ (fun W hq e => ⟨nI 0, sI W 48 0 0 (nI 1), ?_, QM.told, told_at⟩)
      · unfold fn_138
        rw [h.c154, hb, cnd_t, bx_l, h.c155, hc, cnd_f, bx_r]
      · unfold fn_220 fn_220_J21 fn_220_J22
        rw [(h.mw hq e).ask, hb, g_if, cnd_t, (h.mw hq e).cls, hc, g_if, cnd_f, g_is0]
    | true =>
      obtain ⟨k, hk, rfl⟩ := inb_of hc (by omega)
      have e83 := c_83 (k := k) hR0 hx (by omega) (by omega)
      cases hv : canV P (gI Y.1 52 0) x k with
      | false =>
        refine w_exc (F := fn_138 (nI x) (nI k)) (x := 2) (k := nI 2) h rfl (by decide) (fun _ => (if_neg (by decide)).trans (if_pos rfl)) ⟨Y, ?_, QC.rf⟩ (fun W hq e => ⟨nI 0, sI (sI W 48 0 0 (nI 0)) 48 0 0 (nI 2), ?_, QM.told.tr QM.told, told_at⟩)
        · unfold fn_138
          rw [h.c154, hb, cnd_t, bx_l, h.c155, hc, cnd_t, bx_l, e83, hv, bd_t, bI_0, cnd_f]
        · unfold fn_220 fn_220_J22
          rw [(h.mw hq e).ask, hb, g_if, cnd_t, (h.mw hq e).cls, hc, g_if, cnd_t, g_is1, r_218 (h.mw hq e).told.1 (h.mw hq e).told.2.1 (by omega), hv, bd_t, g_may, cnd_f]
      | true =>
        refine w_chg (F := fn_138 (nI x) (nI k)) (fun v r' => v = dbS P (gI Y.1 52 0) x ∧ r' = vetS P (gI Y.1 52 0) x k) h rfl (fun W hm => ?_) ?_
        · obtain ⟨hW, h17⟩ := h.msl hm
          have hT := hW.told (v := nI 0)
          have hT2 := hT.told (v := nI 0)
          obtain ⟨Z, eZ, z1, z2, z3, z4⟩ := r_step (Y := sI (sI W 48 0 0 (nI 0)) 48 0 0 (nI 0)) (v := dbS P (gI Y.1 52 0) x) (r' := vetS P (gI Y.1 52 0) x k) h.2.2.1.1.2 (u17 (u17 h17)) rfl
          refine ⟨_, _, Z, ⟨rfl, rfl⟩, ?_, (MFr.of z2 (fun x _ h2 => z3 x h2)).told.told, fun q _ => by rw [z1], z4.told.told, by rw [z3 0 (by omega), told_at]⟩
          unfold fn_220 fn_220_J22
          rw [hW.ask, hb, g_if, cnd_t, hW.cls, hc, g_if, cnd_t, g_is1, r_218 hT.1 hT.2.1 (by omega), hv, bd_t, g_may, cnd_t, r_starts, bd_t]
          rw [r_219 (r := gI Y.1 52 0) (hT2.1.sF (by omega) (by omega)) (by rw [gI_sFk (by omega), hT2.2.1]) (by omega), bd_t, eZ, bd_t]
        · rintro v r' ⟨rfl, rfl⟩
          obtain ⟨A, eA, cA, kA, gA⟩ := c_push h
          obtain ⟨a0, t, n, m, s, hR, hG, ht, hs⟩ := cA.a
          obtain ⟨Z, eZ, fZ, rZ⟩ := c_84 (k := k) h3 hR hx
          refine ⟨Z, ?_, cA.s h3.2.2.2 (fZ.up (fun k i z => Or.inl z)) ⟨by rw [fZ.1]; exact a0, t, n, m, s, rZ, hG.vet ⟨h3.2.1, h3.2.2.2⟩ h.pr hx hv, ht, hs.1, hs.2.cg (fun a _ => vetS_o (by omega) (by omega) (by omega) (by omega))⟩⟩
          unfold fn_138
          rw [h.c154, hb, cnd_t, bx_l, h.c155, hc, cnd_t, bx_l, e83, hv, bd_t, bI_0, cnd_t, eA, bd_t, eZ, bd_t, ck_in (by omega) (by omega), ix_nI (by omega), (rZ.u x hx).2.1, vetS_d (by omega)]
/-! run -/
theorem TkR.an {P : Pm} {t tu ro n m n' m' : Nat} {lo : Int32} {r r' : Nat → Int32} (hd : P.1 ≤ 5 ∧ P.2.1 ≤ 8) (h : TkR P lo t tu ro n m n' m' r r') (hA : AnI r P.2.1 m) : AnI r' P.2.1 m' := by
  obtain ⟨q1, q2, q3, hv, hp, ⟨q, hq, hw⟩, rfl⟩ := h
  have a1 : AnI q1 P.2.1 m := by
    rcases hv with ⟨_, f, _, rfl⟩ | ⟨_, rfl⟩
    · refine hA.cg (fun a ha => ?_)
      unfold ordS
      rw [if_neg (by omega), if_neg (by omega), if_neg (by omega)]
    · exact hA
  have a2 : AnI q2 P.2.1 m := by
    rcases hp with ⟨_, _, x, _, _, rfl⟩ | ⟨_, rfl⟩
    · refine a1.cg (fun a ha => ?_)
      unfold pasS
      rw [if_neg (by omega), if_neg (by omega), if_neg (fun z => by omega)]
    · exact a1
  have a3 : AnI q P.2.1 m := by
    rcases hq with ⟨_, rfl⟩ | ⟨_, rfl⟩
    · refine a2.cg (fun a ha => ?_)
      unfold takS
      cases Nat.ble P.1 (nxtN q2 n P.1) with
      | true => rfl
      | false => rw [cnd_f, upd_ne (by omega)]
    · exact a2
  have a4 : AnI q3 P.2.1 m' := by
    rcases hw with ⟨_, rfl, _, rfl⟩ | ⟨i, a, k, l, _, hi, _, ea, ha, ek, hk, _, _, ⟨_, rfl, _, rfl⟩ | ⟨_, rfl, _, rfl⟩⟩
    · exact a3
    · intro b hb
      obtain ⟨x, hx, ex⟩ := a3 b hb
      rw [ans_lo (by omega) (by omega)]
      by_cases d : b = a
      · subst d
        refine ⟨x + 1, by omega, ?_⟩
        unfold an0S
        simp (disch := omega) only [upd_ne, upd_at, iteN_t, iteN_f, ↓reduceIte]
        rw [ex, nI_add]
      · refine ⟨x, by omega, ?_⟩
        rw [an0_o (by omega) (by omega) (by omega) (by omega) (by omega) (by omega) (by omega) (by omega) (by omega), upd_ne (by omega)]
        exact ex
    · exact a3.cg (fun a _ => upd_ne (by omega))
  exact a4.cg (fun a _ => upd_ne (by omega))
theorem TkN.an {P : Pm} {tu ro t s k n m n' m' : Nat} {r r' : Nat → Int32} (hd : P.1 ≤ 5 ∧ P.2.1 ≤ 8) (h : TkN P tu ro t s k n m r n' m' r') (hA : AnI r P.2.1 m) : AnI r' P.2.1 m' := by
  obtain ⟨R, N, M, ⟨a1, a2, a3⟩, ⟨b1, b2, b3⟩, hc⟩ := h
  have key : ∀ j, j ≤ k → AnI (R j) P.2.1 (M j) := fun j => by
    induction j with
    | zero => intro _; rw [a1, a3]; exact hA
    | succ j ih => intro hj; exact (hc j (by omega)).2.an hd (ih (by omega))
  rw [← b1, ← b3]
  exact key k (Nat.le_refl _)
theorem ok_30 {Y : Sm} {c : Nat} (hc : c < 600) (a : Int32) (h : RR Y c) : Cok (fn_318 a) (fn_211 a) Y c := by
  obtain ⟨P, tu, ro, u, pos, b, h⟩ := h
  have h3 := h.1.a8
  obtain ⟨e0, t, n, m, s, hR, hG, ht, hs⟩ := h.cl
  cases hb : (inb a 501 && !decide (a = nI 0)) with
  | false =>
    refine w_exc (F := fn_134 a) (x := 1) (k := nI 1) h rfl (by decide) (fun _ => if_pos rfl) ⟨Y, ?_, QC.rf⟩ (fun W hq e => ⟨nI 0, sI W 48 0 0 (nI 1), ?_, QM.told, told_at⟩)
    · unfold fn_134
      rw [c_157 (by omega), hb, cnd_f, bx_r]
    · unfold fn_211
      rw [r_areTicks, hb, bd_t, g_is, cnd_f]
  | true =>
    obtain ⟨b1, b2⟩ := Bool.and_eq_true_iff.mp hb
    obtain ⟨k, hk, rfl⟩ := inb_of b1 (by omega)
    have hk0 : 1 ≤ k := by
      rcases Nat.eq_zero_or_pos k with z | z
      · rw [z] at b2; cases b2
      · exact z
    have hU := h.2.2.1
    refine w_chg (F := fn_134 (nI k)) (fun v r' => ∃ n' m', v = nI m' - nI m ∧ TkN P tu ro t s k n m (gI Y.1 52 0) n' m' r' ∧ GR P r' (t + k) n' m' s) h rfl (fun W hm => ?_) ?_
    · obtain ⟨hW, h17⟩ := h.msl hm
      obtain ⟨Z, r', n', m', eZ, hT, hG', z52, fZ, z0, zx, z17, z57⟩ := r_run (Y := W) (k := k) (t := t) (n := n) (m := m) (s := s) hW.1 hW.2.2 h.1.2.2.1 ⟨hk0, by omega⟩ (by omega) hU.1.2 h17 (by rw [hW.2.1]; exact hG)
      rw [hW.2.1] at hT
      refine ⟨_, r', Z, ⟨n', m', rfl, hT, hG'⟩, eZ, MFr.of fZ (fun x h1 h2 => zx x h1 h2), fun q _ => by rw [z52], ⟨z17, z57⟩, z0⟩
    · rintro v r' ⟨n', m', rfl, hT, hG'⟩
      obtain ⟨A, Z, eZ, fA, fZ, cZ, dZ, z1, z2⟩ := c_run h3 h.1.2.1 h.1.2.2.1 (by omega) (by omega) ⟨hk0, by omega⟩ hU.1.1 hU.2.1 hU.2.2.1 hU.1.2 hG hG' hR hT
      obtain ⟨A', eA', cA', kA', gA'⟩ := c_push h
      have gA : ∀ x, x ≠ (pos + 1) % 8 + 6 → A.2 x = Y.2 x := fun x hx => by rw [fA.1, g_sG, ug_ne (by omega)]
      have gP : A.2 ((pos + 1) % 8 + 6) = Y.2 3 := by rw [fA.1, g_sG, show (pos + 1) % 8 + 6 = (pos + 1) % 8 + 3 + 3 by omega, ug_at]
      refine ⟨Z, eZ, ⟨by rw [fZ.1]; exact gP, fun x hx => by rw [fZ.1]; exact gA x hx, fun k i hk => ?_⟩, z1, z2, ⟨by rw [fZ.1, gA _ (by omega), gA 0 (by omega)]; exact e0, t + k, n', m', s, cZ, hG', by omega, by omega, hT.an ⟨h3.2.1, h3.2.2.2⟩ hs.2⟩, ⟨?_, t, n, m, s, dZ, hG, by omega, by omega, hs.2⟩⟩
      · have hn : ¬ SS 0 k i := fun w => hk (SZ_c (Or.inl w))
        have hn2 : ¬ (S2 ((pos + 1) % 8 + 3) k i ∨ (k = 37 ∧ i = 0)) := fun w => hk (by
          rcases w with w | w
          · exact Or.inr (Or.inr w)
          · exact Or.inl (by rw [w.1]; decide))
        exact ⟨((fZ.gI hn).trans (fA.gI hn2)).trans (by rw [gI_sG]), ((fZ.gJ hn).trans (fA.gJ hn2)).trans (by rw [gJ_sG])⟩
      · rw [fZ.1, show (pos + 1) % 8 + 3 + 3 = (pos + 1) % 8 + 6 by omega, gP, gA 0 (by omega)]; exact e0
