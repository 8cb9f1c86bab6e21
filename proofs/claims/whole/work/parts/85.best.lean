/-! the best veto, the best tally -/
def Vl (P : Pm) (tu ro t s k : Nat) (A : Int32) (r1 : Nat → Int32) (n m x : Nat) : Prop := (∃ r' n' m', TkN P tu ro t s k n m r1 n' m' r') ∧ ∀ r' n' m', TkN P tu ro t s k n m r1 n' m' r' → ansO r' A = nI x
theorem vl_ex {Y Z : Sm} {P : Pm} {r r1 : Nat → Int32} {tu ro t s k n m x0 : Nat} {A : Int32} (hM : ML Y P r) (hW : WI P) (hS : SetI P tu ro) (hs : s ≤ 1000) (ht : t + k ≤ 1000000) (hk : k < 1000000) (hA : AsK A P.2.1) (hR : CR Z 1 P r1 n m) (hG : GR P r1 t n m s) (hN : AnI r1 P.2.1 m) (hx : ansO r1 A = nI x0) (hx2 : x0 ≤ m) : ∃ x, x0 ≤ x ∧ x ≤ 1000 ∧ Vl P tu ro t s k A r1 n m x := by
  have h3 := hM.1.2.2.1
  obtain ⟨f, r', n', m', _, hT, hG'⟩ := r_207 (hM.row (r1 := r1)) hS hk (by omega) hA hG
  obtain ⟨x, h1, h2, h4⟩ := hT.up ⟨h3.2.1, h3.2.2.2⟩ hG hG' hN hA hx hx2
  have := hG'.2.1
  exact ⟨x, h1, by omega, ⟨r', n', m', hT⟩, fun r2 n2 m2 hT2 => by rw [← tk_det h3 hW hS hs ht hk hA hR hT hT2]; exact h4⟩
theorem c_vl {Z : Sm} {P : Pm} {r1 : Nat → Int32} {tu ro t s k n m x : Nat} {A : Int32} (h3 : 0 < P.1 ∧ P.1 ≤ 5 ∧ 0 < P.2.1 ∧ P.2.1 ≤ 8) (hW : WI P) (hS : SetI P tu ro) (hs : s ≤ 1000) (ht : t + k ≤ 1000000) (hk : k < 1000000) (hA : AsK A P.2.1) (hR : CR Z 1 P r1 n m) (hV : Vl P tu ro t s k A r1 n m x) : ∃ Z2, fn_85 1 (nI k) Z = some ((), Z2) ∧ QC Z Z2 ∧ fn_75 1 A Z2 = some (nI x, Z2) := by
  obtain ⟨⟨r', n', m', hT⟩, hV⟩ := hV
  obtain ⟨Z2, e, f, v, _⟩ := c_val h3 hW hS hs ht hk hA hR hT
  rw [hV r' n' m' hT] at v
  exact ⟨Z2, e, QC.s1 f, v⟩
/-- what lies behind the 718 places stays -/
theorem TkR.hi {P : Pm} {t tu ro n m n' m' : Nat} {lo : Int32} {r r' : Nat → Int32} (hd : P.1 ≤ 5 ∧ P.2.1 ≤ 8) (hn : n ≤ 40) (h : TkR P lo t tu ro n m n' m' r r') {q : Nat} (hq : 718 ≤ q) : r' q = r q := by
  obtain ⟨q1, q2, q3, hv, hp, ⟨q4, hq4, hw⟩, rfl⟩ := h
  have a1 : q1 q = r q := by
    rcases hv with ⟨_, f, _, rfl⟩ | ⟨_, rfl⟩
    · unfold ordS
      rw [if_neg (by omega), if_neg (by omega), if_neg (by omega)]
    · rfl
  have a2 : q2 q = r q := by
    rw [← a1]
    rcases hp with ⟨_, _, x, _, _, rfl⟩ | ⟨_, rfl⟩
    · unfold pasS
      rw [if_neg (by omega), if_neg (by omega), if_neg (fun z => by omega)]
    · rfl
  have a3 : q4 q = r q := by
    rw [← a2]
    rcases hq4 with ⟨_, rfl⟩ | ⟨_, rfl⟩
    · unfold takS
      cases Nat.ble P.1 (nxtN q2 n P.1) with
      | true => rfl
      | false => rw [cnd_f, upd_ne (by omega)]
    · rfl
  rw [upd_ne (by omega), ← a3]
  rcases hw with ⟨_, rfl, _, rfl⟩ | ⟨i, a, k, l, _, hi, _, ea, ha, ek, hk, _, _, ⟨_, rfl, _, rfl⟩ | ⟨_, rfl, _, rfl⟩⟩
  · rfl
  · have hm : m % 60 < 60 := Nat.mod_lt _ (by omega)
    unfold ansS remS
    rw [if_neg (by omega), upd_ne (by omega)]
    unfold an0S
    simp (disch := omega) only [upd_ne, upd_at, iteN_t, iteN_f, ↓reduceIte]
  · rw [upd_ne (by omega)]
theorem TkN.hi {P : Pm} {tu ro t s k n m n' m' : Nat} {r r' : Nat → Int32} (hd : P.1 ≤ 5 ∧ P.2.1 ≤ 8) (h : TkN P tu ro t s k n m r n' m' r') {q : Nat} (hq : 718 ≤ q) : r' q = r q := by
  obtain ⟨R, N, M, ⟨a1, a2, a3⟩, ⟨b1, b2, b3⟩, hc⟩ := h
  have key : ∀ j, j ≤ k → R j q = r q := fun j => by
    induction j with
    | zero => intro _; rw [a1]
    | succ j ih => intro hj; rw [(hc j (by omega)).2.hi hd (hc j (by omega)).1.2.1.1 hq, ih (by omega)]
  rw [← b1]
  exact key k (Nat.le_refl _)
/-- what the model has behind a query that leaves the row -/
def QE (W Z : Sm) : Prop := QM W Z ∧ gI Z.1 48 0 = gI W.1 48 0 ∧ gI Z.1 52 0 = gI W.1 52 0
theorem QE.ml {W Z : Sm} {P : Pm} {r : Nat → Int32} (h : QE W Z) (hM : ML W P r) : ML Z P r := hM.cgM h.1 h.2.2
theorem QE.rf {W : Sm} : QE W W := ⟨QM.rf, rfl, rfl⟩
theorem QE.tr {W X Z : Sm} (h : QE W X) (h2 : QE X Z) : QE W Z := ⟨h.1.tr h2.1, h2.2.1.trans h.2.1, h2.2.2.trans h.2.2⟩
theorem QE.s58 {W : Sm} {f : Nat → Int32} : QE W (sF W 58 0 f) := ⟨QM.sF (Or.inr (Or.inr (Or.inl rfl))), by rw [gI_sFk (by omega)], by rw [gI_sFk (by omega)]⟩
theorem r_vl {W : Sm} {P : Pm} {r r1 : Nat → Int32} {t n m s tu ro k x x0 : Nat} {A : Int32} (hM : ML W P r) (hS : SetI P tu ro) (hk : k < 1000000) (ht : t + k < 2 ^ 31) (hA : AsK A P.2.1) (h : GR P r1 t n m s) (hh : ∀ q, 718 ≤ q → r1 q = r q) (hV : Vl P tu ro t s k A r1 n m x) (hx : ansO r1 A = nI x0) (hx2 : x0 ≤ x) : ∃ Z, (bd (fn_207 (nI k) A (sF (sF W 55 0 (cpy r (gI W.1 55 0))) 52 0 r1)) fun v Y3 => bd (fn_177 v Y3) fun v2 Y6 => some (v2, Y6)) = some (nI (x - x0), Z) ∧ QE W Z := by
  have h3 := hM.1.2.2.1
  have hM1 : ML (sF (sF W 55 0 (cpy r (gI W.1 55 0))) 52 0 r1) P r1 := ⟨(hM.1.sF (by omega) (by omega)).sF (by omega) (by omega), gI_sFs _ _ _ _, by rw [gI_sFk (by omega), gI_sFk (by omega)]; exact hM.2.2⟩
  obtain ⟨f, r', n', m', e, hT, hG⟩ := r_207 hM1 hS hk ht hA h
  rw [hV.2 r' n' m' hT, hx, pk_sub hx2] at e
  generalize hX : sF (sF (sF (sF W 55 0 (cpy r (gI W.1 55 0))) 52 0 r1) 58 0 f) 52 0 r' = X at e
  have x55 : gI X.1 55 0 = cpy r (gI W.1 55 0) := by rw [← hX, gI_sFk (by omega), gI_sFk (by omega), gI_sFk (by omega), gI_sFs]
  have x52 : gI X.1 52 0 = r' := by rw [← hX, gI_sFs]
  have eb : cpy (gI X.1 55 0) (gI X.1 52 0) = r := by
    funext q
    unfold cpy
    by_cases c : q < 718
    · rw [if_pos c, x55, cpy_lt c]
    · rw [if_neg c, x52, hT.hi ⟨h3.2.1, h3.2.2.2⟩ (by omega), hh q (by omega)]
  have e177 := r_177 (nI (x - x0)) X
  rw [eb] at e177
  refine ⟨sF X 52 0 r, ?_, ⟨by rw [← hX]; rfl, fun k i hk => ⟨?_, by rw [← hX]; rfl⟩, fun x _ => ?_, fun q hq => ?_⟩, ?_, ?_⟩
  · rw [e, bd_t, e177, bd_t]
  · simp only [List.mem_cons, List.mem_nil_iff, or_false, not_or] at hk
    rw [gI_sFk (by omega), ← hX, gI_sFk (by omega), gI_sFk (by omega), gI_sFk (by omega), gI_sFk (by omega)]
  · rw [gI_sFk (by omega), ← hX, gI_sFk (by omega), gI_sFk (by omega), gI_sFk (by omega), gI_sFk (by omega)]
  · rw [gI_sFs, hM.2.1]
  · rw [gI_sFk (by omega), ← hX, gI_sFk (by omega), gI_sFk (by omega), gI_sFk (by omega), gI_sFk (by omega)]
  · rw [gI_sFs, hM.2.1]
theorem r_vl0 {W : Sm} {P : Pm} {r : Nat → Int32} {t n m s tu ro k x x0 : Nat} {A : Int32} (hM : ML W P r) (hS : SetI P tu ro) (hk : k < 1000000) (ht : t + k < 2 ^ 31) (hA : AsK A P.2.1) (h : GR P r t n m s) (hV : Vl P tu ro t s k A r n m x) (hx : ansO r A = nI x0) (hx2 : x0 ≤ x) : ∃ Z, fn_260 (nI k) A W = some (nI (x - x0), Z) ∧ QE W Z := by
  obtain ⟨Z, e, q⟩ := r_vl hM hS hk ht hA h (fun _ _ => rfl) hV hx hx2
  refine ⟨Z, ?_, q⟩
  unfold fn_260
  rw [r_176, bd_t, hM.2.1]
  have e2 : sF (sF W 55 0 (cpy r (gI W.1 55 0))) 52 0 r = sF W 55 0 (cpy r (gI W.1 55 0)) := by
    have := sF_self (sF W 55 0 (cpy r (gI W.1 55 0))) 52 0
    rw [gI_sFk (by omega), hM.2.1] at this
    exact this
  rw [e2] at e
  exact e
def bvS (can : Nat → Bool) (xf : Nat → Nat) (v0 : Nat) : Nat → Nat × Int32
  | 0 => (v0, (-1 : Int32))
  | j + 1 => if can j = true ∧ (bvS can xf v0 j).1 < xf j then (xf j, nI j) else bvS can xf v0 j
theorem bvS_no {can : Nat → Bool} {xf : Nat → Nat} {v0 j : Nat} (h : ¬ (can j = true ∧ (bvS can xf v0 j).1 < xf j)) : bvS can xf v0 (j + 1) = bvS can xf v0 j := if_neg h
theorem bvS_yes {can : Nat → Bool} {xf : Nat → Nat} {v0 j : Nat} (h : can j = true ∧ (bvS can xf v0 j).1 < xf j) : bvS can xf v0 (j + 1) = (xf j, nI j) := if_pos h
theorem bvS_b {can : Nat → Bool} {xf : Nat → Nat} {v0 x0 C : Nat} (h0 : x0 ≤ v0 ∧ v0 ≤ 1000) (hx : ∀ j, j < C → can j = true → x0 ≤ xf j ∧ xf j ≤ 1000) : ∀ j, j ≤ C → x0 ≤ (bvS can xf v0 j).1 ∧ (bvS can xf v0 j).1 ≤ 1000 := by
  intro j
  induction j with
  | zero => intro _; exact h0
  | succ j ih =>
    intro hj
    have := ih (by omega)
    unfold bvS
    by_cases c : can j = true ∧ (bvS can xf v0 j).1 < xf j
    · rw [if_pos c]; exact hx j (by omega) c.1
    · rw [if_neg c]; exact this
theorem lt_sub {x y b : Nat} (hx : b ≤ x) (hy : b ≤ y) (hx2 : x ≤ 1000) (hy2 : y ≤ 1000) {ρ : Type} {u v : ρ} : (if nI (x - b) < nI (y - b) then u else v) = if x < y then u else v := by
  by_cases c : x < y
  · rw [if_pos c, iteI_lt_t (by omega) (by omega)]
  · rw [if_neg c, iteI_lt_f (by omega) (by omega)]
theorem m1_lt0 {x : Nat} (h : x < 2 ^ 31) : ¬ nI x < (-1 : Int32) := fun q => by
  have := Int32.lt_iff_toInt_lt.mp q
  rw [nI_toInt h] at this
  have e : (-1 : Int32).toInt = -1 := by decide
  omega
theorem m1_ltn {x : Nat} (h : x < 2 ^ 31) : (-1 : Int32) < nI x := Int32.lt_iff_toInt_lt.mpr (by
  rw [nI_toInt h]
  have e : (-1 : Int32).toInt = -1 := by decide
  omega)
theorem ok_41 {Y : Sm} {c : Nat} (hc : c < 600) (a w : Int32) (h : RR Y c) : Cok (fn_329 a w) (fn_263 a w) Y c := by
  obtain ⟨P, tu, ro, u, pos, b, h⟩ := h
  have h3 := h.1.a8
  obtain ⟨e0, t, n, m, s, hR, hG, ht, hs, hN⟩ := h.cl
  cases hb : inb a P.2.1 with
  | false =>
    refine w_exc (F := fn_145 a w) (x := 0) (k := nI 1) h rfl (by decide) (fun _ => if_pos rfl) ⟨Y, ?_, QC.rf⟩ (fun W hq e => ⟨nI 0, sI W 48 0 0 (nI 1), ?_, QM.told, told_at⟩)
    · unfold fn_145
      rw [h.c154, hb, cnd_f, bx_r]
    · unfold fn_263
      rw [(h.mw hq e).ask, hb, bd_t, g_is, cnd_f]
  | true =>
  obtain ⟨a, ha, rfl⟩ := inb_of hb (by omega)
  cases hb2 : (inb w 501 && !decide (w = nI 0)) with
  | false =>
    refine w_exc (F := fn_145 (nI a) w) (x := 1) (k := nI 2) h rfl (by decide) (fun _ => (if_neg (by decide)).trans (if_pos rfl)) ⟨Y, ?_, QC.rf⟩ (fun W hq e => ⟨nI 0, sI (sI W 48 0 0 (nI 0)) 48 0 0 (nI 2), ?_, QM.told.tr QM.told, told_at⟩)
    · unfold fn_145
      rw [h.c154, hb, cnd_t, bx_l, c_157 (by omega), hb2, cnd_f, bx_r]
    · unfold fn_263
      rw [(h.mw hq e).ask, hb, bd_t, g_is, cnd_t, r_areTicks, hb2, bd_t, g_may, cnd_f]
  | true =>
  obtain ⟨k, hk, rfl⟩ := tk_in hb2 (by omega)
  have hA : AsK (nI a) P.2.1 := Or.inr ⟨a, ha, rfl⟩
  obtain ⟨x0, hx0, ex0⟩ := hN a ha
  have ea : ansO (gI Y.1 52 0) (nI a) = nI x0 := by
    unfold ansO
    rw [if_neg (nI_ne_m1 (by omega)), ix_nI (by omega)]
    exact ex0
  have eav : ∀ j, ansO (vetS P (gI Y.1 52 0) a j) (nI a) = nI x0 := fun j => by
    unfold ansO
    rw [if_neg (nI_ne_m1 (by omega)), ix_nI (by omega), vetS_o (by omega) (by omega) (by omega) (by omega)]
    exact ex0
  obtain ⟨Z0, eZ0, qZ0, cZ0⟩ := h.try hR hG
  obtain ⟨v0, hv1, hv2, hV0⟩ := vl_ex (k := k) h.ml h.1.2.1 h.1.2.2.1 (by omega) (by omega) (by omega) hA cZ0 hG hN ea hx0
  have hx : ∀ j, ∃ x, j < P.1 → canV P (gI Y.1 52 0) a j = true → x0 ≤ x ∧ x ≤ 1000 ∧ Vl P tu ro t s k (nI a) (vetS P (gI Y.1 52 0) a j) n m x := fun j => by
    by_cases g : j < P.1 ∧ canV P (gI Y.1 52 0) a j = true
    · obtain ⟨Z1, _, _, c1⟩ := c_84 (k := j) h3 cZ0 ha
      obtain ⟨x, y1, y2, y3⟩ := vl_ex (k := k) h.ml h.1.2.1 h.1.2.2.1 (by omega) (by omega) (by omega) hA c1 (hG.vet ⟨h3.2.1, h3.2.2.2⟩ h.pr ha g.2) (hN.cg (fun a _ => vetS_o (by omega) (by omega) (by omega) (by omega))) (eav j) hx0
      exact ⟨x, fun _ _ => ⟨y1, y2, y3⟩⟩
    · exact ⟨0, fun g1 g2 => absurd ⟨g1, g2⟩ g⟩
  obtain ⟨xf, hxf⟩ := Classical.axiomOfChoice hx
  have hbb := bvS_b (can := canV P (gI Y.1 52 0) a) (xf := xf) (v0 := v0) (C := P.1) ⟨hv1, hv2⟩ (fun j h1 h2 => ⟨(hxf j h1 h2).1, (hxf j h1 h2).2.1⟩)
  refine w_val (F := fn_145 (nI a) (nI k)) (v := (bvS (canV P (gI Y.1 52 0) a) xf v0 P.1).2) h rfl ?_ (fun W hq e => ?_)
  · obtain ⟨Z2, e2, q2, f2⟩ := c_vl h3 h.1.2.1 h.1.2.2.1 (by omega) (by omega) (by omega) hA cZ0 hV0
    have key := Ok_lp (F := fun s => fn_145_L51_2 (nI a) (nI k) s.1 s.2.1 s.2.2.1 s.2.2.2) (Q := fun x => ∃ Z3, x = (.inl (bvS (canV P (gI Y.1 52 0) a) xf v0 P.1).2, Z3) ∧ QC Y Z3) (fun j x => x.1 = nI (bvS (canV P (gI Y.1 52 0) a) xf v0 j).1 ∧ x.2.1 = (bvS (canV P (gI Y.1 52 0) a) xf v0 j).2 ∧ x.2.2.1 = nI j ∧ QC Y x.2.2.2) P.1 (N := FU) (FU_lt (by omega)) (s := (nI v0, (-1 : Int32), nI 0, Z2)) ?_ ?_ ?_
    · obtain ⟨x, ex, Z3, rfl, q3⟩ := key
      refine ⟨Z3, ?_, q3⟩
      unfold fn_145
      rw [h.c154, hb, cnd_t, bx_l, c_157 (by omega), hb2, cnd_t, bx_l, eZ0, bd_t, e2, bd_t, f2, bd_t, ex]
    · rintro j ⟨l1, l2, l3, X⟩ hj ⟨E1, E2, E3, qX⟩
      have E1 : l1 = _ := E1
      have E2 : l2 = _ := E2
      have E3 : l3 = nI j := E3
      subst E1 E2 E3
      have qX : QC Y X := qX
      have h' := h.q qX.f
      have x52 : gI X.1 52 0 = gI Y.1 52 0 := qX.m (by omega)
      obtain ⟨_, t', n', m', s', hR', hG', _⟩ := h'.cl
      rw [x52] at hR' hG'
      have e5 : gI X.1 5 (X.2 0) 0 = nI P.1 := h'.cp.1.1
      have e83 := c_83 (k := j) hR' ha (by omega) (by omega)
      cases hv : canV P (gI Y.1 52 0) a j with
      | false =>
        rw [hv] at e83
        refine ⟨.inl (nI (bvS (canV P (gI Y.1 52 0) a) xf v0 j).1, (bvS (canV P (gI Y.1 52 0) a) xf v0 j).2, nI (j + 1), X), ?_, ?_, ?_, rfl, qX⟩
        · simp only [fn_145_L51_2]
          rw [e5, iteI_le_f hj (by omega), e83, bd_t, bI_0, cnd_f, nI_add]
        · rw [bvS_no (fun z => by rw [hv] at z; cases z.1)]
        · rw [bvS_no (fun z => by rw [hv] at z; cases z.1)]
      | true =>
        rw [hv] at e83
        obtain ⟨y1, y2, hVj⟩ := hxf j hj hv
        have en : n' = n := (nI_eq (by have := hG'.2.1; omega) (by have := hG.2.1; omega)).mp (hG'.1.2.1.symm.trans hG.1.2.1)
        have em : m' = m := (nI_eq (by have := hG'.2.1; omega) (by have := hG.2.1; omega)).mp (hG'.1.2.2.1.symm.trans hG.1.2.2.1)
        subst en em
        obtain ⟨A1, eA1, fA1, cA1⟩ := c_72 (i0 := 1) (i1 := 0) (by omega) h3 hG.2.1.1 hG.2.2.2.2.1 hR'
        obtain ⟨A2, eA2, fA2, cA2⟩ := c_84 (k := j) h3 cA1 ha
        obtain ⟨A3, eA3, qA3, vA3⟩ := c_vl h3 h.1.2.1 h.1.2.2.1 (by omega) (by omega) (by omega) hA cA2 hVj
        have q3 : QC Y A3 := (qX.tr (QC.s2 fA1)).tr ((QC.s1 fA2).tr qA3)
        have hbj := hbb j (by omega)
        rcases Nat.lt_or_ge (bvS (canV P (gI Y.1 52 0) a) xf v0 j).1 (xf j) with g | g
        · refine ⟨.inl (nI (xf j), nI j, nI (j + 1), A3), ?_, ?_, ?_, rfl, q3⟩
          · simp only [fn_145_L51_2]
            rw [e5, iteI_le_f hj (by omega), e83, bd_t, bI_0, cnd_t, eA1, bd_t, eA2, bd_t, eA3, bd_t, vA3, bd_t, iteI_le_f g (by omega), vA3, bd_t, nI_add]
          · rw [bvS_yes ⟨hv, g⟩]
          · rw [bvS_yes ⟨hv, g⟩]
        · refine ⟨.inl (nI (bvS (canV P (gI Y.1 52 0) a) xf v0 j).1, (bvS (canV P (gI Y.1 52 0) a) xf v0 j).2, nI (j + 1), A3), ?_, ?_, ?_, rfl, q3⟩
          · simp only [fn_145_L51_2]
            rw [e5, iteI_le_f hj (by omega), e83, bd_t, bI_0, cnd_t, eA1, bd_t, eA2, bd_t, eA3, bd_t, vA3, bd_t, iteI_le_t g (by omega), nI_add]
          · rw [bvS_no (fun z => by omega)]
          · rw [bvS_no (fun z => by omega)]
    · rintro ⟨l1, l2, l3, X⟩ ⟨E1, E2, E3, qX⟩
      have E1 : l1 = _ := E1
      have E2 : l2 = _ := E2
      have E3 : l3 = nI P.1 := E3
      subst E1 E2 E3
      have qX : QC Y X := qX
      have e5 : gI X.1 5 (X.2 0) 0 = nI P.1 := (h.q qX.f).cp.1.1
      refine ⟨.inr (.inl _, X), ?_, X, rfl, qX⟩
      simp only [fn_145_L51_2]
      rw [e5, iteI_le_t (Nat.le_refl _) (by omega)]
    · exact ⟨rfl, rfl, rfl, (qZ0.tr q2)⟩
  · have hT := ((h.mw hq e).told (v := nI 0)).told (v := nI 0)
    obtain ⟨X0, eX0, qX0⟩ := r_vl0 hT h.1.2.2.1 (by omega) (by omega) hA hG hV0 ea hv1
    have key := Ok_lp (F := fun s => fn_263_L39 (nI a) (nI k) s.1 s.2.1 s.2.2.1 s.2.2.2) (Q := fun x => ∃ Z3, x = ((bvS (canV P (gI Y.1 52 0) a) xf v0 P.1).2, Z3) ∧ QE (sI (sI W 48 0 0 (nI 0)) 48 0 0 (nI 0)) Z3) (fun j x => x.1 = (bvS (canV P (gI Y.1 52 0) a) xf v0 j).2 ∧ x.2.1 = nI ((bvS (canV P (gI Y.1 52 0) a) xf v0 j).1 - x0) ∧ x.2.2.1 = nI j ∧ QE (sI (sI W 48 0 0 (nI 0)) 48 0 0 (nI 0)) x.2.2.2) P.1 (N := FU) (FU_lt (by omega)) (s := ((-1 : Int32), nI (v0 - x0), nI 0, X0)) ?_ ?_ ?_
    · obtain ⟨x, ex, Z3, rfl, q3⟩ := key
      refine ⟨Z3, ?_, (QM.told.tr QM.told).tr q3.1, by rw [q3.2.1, gI_sIv, upd_at]⟩
      unfold fn_263
      rw [(h.mw hq e).ask, hb, bd_t, g_is, cnd_t, r_areTicks, hb2, bd_t, g_may, cnd_t, eX0, bd_t, ex]
    · rintro j ⟨l1, l2, l3, X⟩ hj ⟨E1, E2, E3, qX⟩
      have E1 : l1 = _ := E1
      have E2 : l2 = _ := E2
      have E3 : l3 = nI j := E3
      subst E1 E2 E3
      have qX : QE (sI (sI W 48 0 0 (nI 0)) 48 0 0 (nI 0)) X := qX
      have hX := qX.ml hT
      have e218 := r_218 (k := j) hX.1 hX.2.1 (by omega : a < 8)
      have hbj := hbb j (by omega)
      cases hv : canV P (gI Y.1 52 0) a j with
      | false =>
        rw [hv] at e218
        refine ⟨.inl ((bvS (canV P (gI Y.1 52 0) a) xf v0 j).2, nI ((bvS (canV P (gI Y.1 52 0) a) xf v0 j).1 - x0), nI (j + 1), X), ?_, ?_, ?_, rfl, qX⟩
        · simp only [fn_263_L39, fn_262, hX.1.1]
          rw [iteI_le_f hj (by omega), e218, bd_t, bI_0, cnd_f, bd_t, if_neg (m1_lt0 (by omega)), nI_add]
        · rw [bvS_no (fun z => by rw [hv] at z; cases z.1)]
        · rw [bvS_no (fun z => by rw [hv] at z; cases z.1)]
      | true =>
        rw [hv] at e218
        obtain ⟨y1, y2, hVj⟩ := hxf j hj hv
        obtain ⟨X2, eX2, qX2⟩ := r_vl hX h.1.2.2.1 (by omega) (by omega) hA (hG.vet ⟨h3.2.1, h3.2.2.2⟩ h.pr ha hv) (fun q hq => vetS_o (by omega) (by omega) (by omega) (by omega)) hVj (eav j) y1
        have e262 : fn_262 (nI a) (nI j) (nI k) X = some (nI (xf j - x0), X2) := by
          unfold fn_262
          rw [e218, bd_t, bI_0, cnd_t, r_176, bd_t, hX.2.1, r_219 (r := gI Y.1 52 0) (hX.s55.1) (hX.s55.2.1) (by omega), bd_t, eX2]
        refine ⟨.inl ((bvS (canV P (gI Y.1 52 0) a) xf v0 (j + 1)).2, nI ((bvS (canV P (gI Y.1 52 0) a) xf v0 (j + 1)).1 - x0), nI (j + 1), X2), ?_, rfl, rfl, rfl, qX.tr qX2⟩
        have eb : bvS (canV P (gI Y.1 52 0) a) xf v0 (j + 1) = if (bvS (canV P (gI Y.1 52 0) a) xf v0 j).1 < xf j then (xf j, nI j) else bvS (canV P (gI Y.1 52 0) a) xf v0 j := by
          show (if canV P (gI Y.1 52 0) a j = true ∧ (bvS (canV P (gI Y.1 52 0) a) xf v0 j).1 < xf j then (xf j, nI j) else bvS (canV P (gI Y.1 52 0) a) xf v0 j) = _
          by_cases g : (bvS (canV P (gI Y.1 52 0) a) xf v0 j).1 < xf j
          · rw [if_pos g, if_pos ⟨hv, g⟩]
          · rw [if_neg g, if_neg (fun z => g z.2)]
        rw [eb]
        simp only [fn_263_L39, hX.1.1]
        rw [iteI_le_f hj (by omega), e262, bd_t, lt_sub hbj.1 y1 hbj.2 y2, nI_add]
        by_cases g : (bvS (canV P (gI Y.1 52 0) a) xf v0 j).1 < xf j
        · rw [if_pos g, if_pos g]
        · rw [if_neg g, if_neg g]
    · rintro ⟨l1, l2, l3, X⟩ ⟨E1, E2, E3, qX⟩
      have E1 : l1 = _ := E1
      have E2 : l2 = _ := E2
      have E3 : l3 = nI P.1 := E3
      subst E1 E2 E3
      have qX : QE (sI (sI W 48 0 0 (nI 0)) 48 0 0 (nI 0)) X := qX
      have hX := qX.ml hT
      refine ⟨.inr (_, X), ?_, X, rfl, qX⟩
      simp only [fn_263_L39, hX.1.1]
      rw [iteI_le_t (Nat.le_refl _) (by omega)]
    · exact ⟨rfl, rfl, rfl, qX0⟩
/-! the greatest, the first of them -/
def mxN (xf : Nat → Nat) : Nat → Nat
  | 0 => xf 0
  | j + 1 => if mxN xf j < xf (j + 1) then xf (j + 1) else mxN xf j
def biN (xf : Nat → Nat) : Nat → Nat
  | 0 => 0
  | j + 1 => if mxN xf j < xf (j + 1) then j + 1 else biN xf j
theorem mxN_b {xf : Nat → Nat} {x0 C : Nat} (hx : ∀ j, j < C → x0 ≤ xf j ∧ xf j ≤ 1000) : ∀ j, j < C → x0 ≤ mxN xf j ∧ mxN xf j ≤ 1000 := by
  intro j
  induction j with
  | zero => intro h; exact hx 0 h
  | succ j ih =>
    intro hj
    have := ih (by omega)
    unfold mxN
    by_cases c : mxN xf j < xf (j + 1)
    · rw [if_pos c]; exact hx (j + 1) hj
    · rw [if_neg c]; exact this
/-- what the loops hold ahead of the step j: nothing, or the greatest of the first j -/
def mxI (xf : Nat → Nat) (b j : Nat) : Int32 := if j = 0 then (-1 : Int32) else nI (mxN xf (j - 1) - b)
def biI (z : Int32) (g : Nat → Int32) (xf : Nat → Nat) (j : Nat) : Int32 := if j = 0 then z else g (biN xf (j - 1))
theorem mx_step {ρ : Type} {xf : Nat → Nat} {b C j : Nat} (hx : ∀ j, j < C → b ≤ xf j ∧ xf j ≤ 1000) (hj : j < C) (z : Int32) (g : Nat → Int32) (K : Int32 → Int32 → ρ) : (if mxI xf b j < nI (xf j - b) then K (g j) (nI (xf j - b)) else K (biI z g xf j) (mxI xf b j)) = K (biI z g xf (j + 1)) (mxI xf b (j + 1)) := by
  have hxj := hx j hj
  rcases Nat.eq_zero_or_pos j with h0 | h0
  · subst h0
    unfold mxI biI
    rw [if_pos rfl, if_pos (m1_ltn (by omega)), if_neg (by omega), if_neg (by omega)]
    rfl
  · obtain ⟨i, rfl⟩ : ∃ i, j = i + 1 := ⟨j - 1, by omega⟩
    have hm := mxN_b hx i (by omega)
    have m1 : mxI xf b (i + 1) = nI (mxN xf i - b) := if_neg (by omega)
    have m2 : mxI xf b (i + 1 + 1) = nI (mxN xf (i + 1) - b) := if_neg (by omega)
    have b1 : biI z g xf (i + 1) = g (biN xf i) := if_neg (by omega)
    have b2 : biI z g xf (i + 1 + 1) = g (biN xf (i + 1)) := if_neg (by omega)
    rw [m1, m2, b1, b2, lt_sub hm.1 hxj.1 hm.2 hxj.2]
    show _ = K (g (if mxN xf i < xf (i + 1) then i + 1 else biN xf i)) (nI ((if mxN xf i < xf (i + 1) then xf (i + 1) else mxN xf i) - b))
    by_cases c : mxN xf i < xf (i + 1)
    · rw [if_pos c, if_pos c, if_pos c]
    · rw [if_neg c, if_neg c, if_neg c]
theorem ite_le_lt {ρ : Type} {a b : Int32} {u v : ρ} : (if a ≤ b then u else v) = if b < a then v else u := by
  by_cases c : b < a
  · rw [if_pos c, if_neg (Int32.not_le.mpr c)]
  · rw [if_neg c, if_pos (Int32.not_lt.mp c)]
theorem ok_42 {Y : Sm} {c : Nat} (hc : c < 600) (w : Int32) (h : RR Y c) : Cok (fn_330 w) (fn_264 w) Y c := by
  obtain ⟨P, tu, ro, u, pos, b, h⟩ := h
  have h3 := h.1.a8
  obtain ⟨e0, t, n, m, s, hR, hG, ht, hs, hN⟩ := h.cl
  have hms := hG.2.1.2
  cases hb2 : (inb w 501 && !decide (w = nI 0)) with
  | false =>
    refine w_exc (F := fn_146 w) (x := 1) (k := nI 1) h rfl (by decide) (fun _ => if_pos rfl) ⟨Y, ?_, QC.rf⟩ (fun W hq e => ⟨nI 0, sI W 48 0 0 (nI 1), ?_, QM.told, told_at⟩)
    · unfold fn_146
      rw [c_157 (by omega), hb2, cnd_f, bx_r]
    · unfold fn_264
      rw [r_areTicks, hb2, bd_t, g_is, cnd_f]
  | true =>
  obtain ⟨k, hk, rfl⟩ := tk_in hb2 (by omega)
  have hA : AsK (-1 : Int32) P.2.1 := Or.inl rfl
  have ea : ∀ j, ansO (upd (gI Y.1 52 0) 1 (nI j)) (-1 : Int32) = nI m := fun j => by
    unfold ansO
    rw [if_pos rfl, upd_ne (by omega)]
    exact hG.1.2.2.1
  have ctl : ∀ (X : Sm) (j : Nat), CR X 1 P (gI Y.1 52 0) n m → CR (sI X 21 1 2 (nI j)) 1 P (upd (gI Y.1 52 0) 1 (nI j)) n m := fun X j hX => by
    have G : ∀ k i, k ≠ 21 → gI (sI X 21 1 2 (nI j)).1 k i = gI X.1 k i := fun k i hk => by rw [gI_sIk hk]
    have e : ∀ q, q ≠ 1 → upd (gI Y.1 52 0) 1 (nI j) q = gI Y.1 52 0 q := fun q hq => upd_ne hq
    refine ⟨hX.p.cg (G _ _ (by omega)) (G _ _ (by omega)) (G _ _ (by omega)), fun y hy => ?_, hX.q.cg (G _ _ (by omega)) (G _ _ (by omega)) (G _ _ (by omega)) (G _ _ (by omega)) (G _ _ (by omega)) (G _ _ (by omega)) (G _ _ (by omega)) (e 8 (by omega)) (e 9 (by omega)) (fun j w _ _ => e _ (by omega)), hX.k.cg (G _ _ (by omega)) (G _ _ (by omega)) (G _ _ (by omega)) rfl (fun k _ => ⟨e _ (by omega), e _ (by omega), e _ (by omega), e _ (by omega)⟩), hX.u.cg (G _ _ (by omega)) (G _ _ (by omega)) (G _ _ (by omega)) (G _ _ (by omega)) (G _ _ (by omega)) (G _ _ (by omega)) (fun x _ _ => e _ (by omega)) h3.2.2.2, hX.b.cg (fun _ _ => G _ _ (by omega)) (fun a p _ _ => e _ (by omega)), hX.l.cg (G _ _ (by omega)) (G _ _ (by omega)) (fun x _ _ => e _ (by omega))⟩
    rw [gI_sIv]
    by_cases d : y = 1
    · rw [d, upd_at, upd_at]
    · rw [upd_ne (by omega), upd_ne d]
      exact hX.a y hy
  obtain ⟨Z0, eZ0, qZ0, cZ0⟩ := h.try hR hG
  have hx : ∀ j, ∃ x, j < 3 → m ≤ x ∧ x ≤ 1000 ∧ Vl P tu ro t s k (-1 : Int32) (upd (gI Y.1 52 0) 1 (nI j)) n m x := fun j => by
    by_cases g : j < 3
    · obtain ⟨x, y1, y2, y3⟩ := vl_ex (k := k) h.ml h.1.2.1 h.1.2.2.1 (by omega) (by omega) (by omega) hA (ctl Z0 j cZ0) (hG.tly ⟨h3.2.1, h3.2.2.2⟩ g) (hN.cg (fun a _ => upd_ne (by omega))) (ea j) (Nat.le_refl _)
      exact ⟨x, fun _ => ⟨y1, y2, y3⟩⟩
    · exact ⟨0, fun g1 => absurd g1 g⟩
  obtain ⟨xf, hxf⟩ := Classical.axiomOfChoice hx
  have hxb : ∀ j, j < 3 → m ≤ xf j ∧ xf j ≤ 1000 := fun j hj => ⟨(hxf j hj).1, (hxf j hj).2.1⟩
  have hxb0 : ∀ j, j < 3 → 0 ≤ xf j ∧ xf j ≤ 1000 := fun j hj => ⟨Nat.zero_le _, (hxf j hj).2.1⟩
  refine w_val (F := fn_146 (nI k)) (v := biI (nI 0) nI xf 3) h rfl ?_ (fun W hq e => ?_)
  · have key := Ok_lp (F := fun s => fn_146_L15_1 (nI k) s.1 s.2.1 s.2.2.1 s.2.2.2) (Q := fun x => ∃ Z3, x = (.inl (biI (nI 0) nI xf 3), Z3) ∧ QC Y Z3) (fun j x => x.1 = mxI xf 0 j ∧ x.2.1 = biI (nI 0) nI xf j ∧ x.2.2.1 = nI j ∧ QC Y x.2.2.2) 3 (N := FU) (FU_lt (by omega)) (s := ((-1 : Int32), nI 0, nI 0, Y)) ?_ ?_ ?_
    · obtain ⟨x, ex, Z3, rfl, q3⟩ := key
      refine ⟨Z3, ?_, q3⟩
      unfold fn_146
      rw [c_157 (by omega), hb2, cnd_t, bx_l, ex]
    · rintro j ⟨l1, l2, l3, X⟩ hj ⟨E1, E2, E3, qX⟩
      have E1 : l1 = _ := E1
      have E2 : l2 = _ := E2
      have E3 : l3 = nI j := E3
      subst E1 E2 E3
      have qX : QC Y X := qX
      have h' := h.q qX.f
      have x52 : gI X.1 52 0 = gI Y.1 52 0 := qX.m (by omega)
      obtain ⟨_, t', n', m', s', hR', hG', _⟩ := h'.cl
      rw [x52] at hR' hG'
      have en : n' = n := (nI_eq (by have := hG'.2.1; omega) (by have := hG.2.1; omega)).mp (hG'.1.2.1.symm.trans hG.1.2.1)
      have em : m' = m := (nI_eq (by have := hG'.2.1; omega) (by have := hG.2.1; omega)).mp (hG'.1.2.2.1.symm.trans hG.1.2.2.1)
      subst en em
      obtain ⟨A1, eA1, fA1, cA1⟩ := c_72 (i0 := 1) (i1 := 0) (by omega) h3 hG.2.1.1 hG.2.2.2.2.1 hR'
      obtain ⟨y1, y2, hVj⟩ := hxf j hj
      obtain ⟨A3, eA3, qA3, vA3⟩ := c_vl h3 h.1.2.1 h.1.2.2.1 (by omega) (by omega) (by omega) hA (ctl A1 j cA1) hVj
      have v8 : gI A3.1 21 1 8 = nI (xf j) := by
        unfold fn_75 at vA3
        rw [if_pos rfl] at vA3
        exact congrArg Prod.fst (Option.some.inj vA3)
      have fS : Fr (SS 1) A1 (sI A1 21 1 2 (nI j)) := Fr.sI (Or.inr (Or.inl ⟨rfl, by decide⟩))
      have q3 : QC Y A3 := (qX.tr (QC.s2 fA1)).tr ((QC.s1 fS).tr qA3)
      refine ⟨.inl (mxI xf 0 (j + 1), biI (nI 0) nI xf (j + 1), nI (j + 1), A3), ?_, rfl, rfl, rfl, q3⟩
      simp only [fn_146_L15_1]
      rw [iteI_lt_f (by omega) (by omega), eA1, bd_t, wr_t, eA3, bd_t, v8, nI_add, ite_le_lt]
      exact mx_step (b := 0) hxb0 hj (nI 0) nI (fun y x => some (Sum.inl (x, y, nI (j + 1), A3)))
    · rintro ⟨l1, l2, l3, X⟩ ⟨E1, E2, E3, qX⟩
      have E1 : l1 = _ := E1
      have E2 : l2 = _ := E2
      have E3 : l3 = nI 3 := E3
      subst E1 E2 E3
      have qX : QC Y X := qX
      refine ⟨.inr (.inl _, X), ?_, X, rfl, qX⟩
      simp only [fn_146_L15_1]
      rw [iteI_lt_t (by omega) (by omega)]
    · exact ⟨rfl, rfl, rfl, QC.rf⟩
  · have hT := (h.mw hq e).told (v := nI 0)
    have key := Ok_lp (F := fun s => fn_264_L20 (nI k) s.1 s.2.1 s.2.2.1 s.2.2.2) (Q := fun x => ∃ Z3, x = (biI (nI 0) nI xf 3, Z3) ∧ QE (sI W 48 0 0 (nI 0)) Z3) (fun j x => x.1 = biI (nI 0) nI xf j ∧ x.2.1 = mxI xf m j ∧ x.2.2.1 = nI j ∧ QE (sI W 48 0 0 (nI 0)) x.2.2.2) 3 (N := FU) (FU_lt (by omega)) (s := (nI 0, (-1 : Int32), nI 0, sI W 48 0 0 (nI 0))) ?_ ?_ ?_
    · obtain ⟨x, ex, Z3, rfl, q3⟩ := key
      refine ⟨Z3, ?_, QM.told.tr q3.1, by rw [q3.2.1, gI_sIv, upd_at]⟩
      unfold fn_264
      rw [r_areTicks, hb2, bd_t, g_is, cnd_t, ex]
    · rintro j ⟨l1, l2, l3, X⟩ hj ⟨E1, E2, E3, qX⟩
      have E1 : l1 = _ := E1
      have E2 : l2 = _ := E2
      have E3 : l3 = nI j := E3
      subst E1 E2 E3
      have qX : QE (sI W 48 0 0 (nI 0)) X := qX
      have hX := qX.ml hT
      obtain ⟨y1, y2, hVj⟩ := hxf j hj
      obtain ⟨X2, eX2, qX2⟩ := r_vl hX h.1.2.2.1 (by omega) (by omega) hA (hG.tly ⟨h3.2.1, h3.2.2.2⟩ hj) (fun q hq => upd_ne (by omega)) hVj (ea j) y1
      have eT : (bd (fn_207 (nI k) (-1 : Int32) (sF (sF X 55 0 (cpy (gI Y.1 52 0) (gI X.1 55 0))) 52 0 (upd (gI Y.1 52 0) 1 (nI j)))) fun v15 Y13 => bd (fn_177 v15 Y13) fun v18 Y16 => (if mxI xf m j < v18 then some (Sum.inl (nI j, v18, nI j + nI 1, Y16)) else some (.inl (biI (nI 0) nI xf j, mxI xf m j, nI j + nI 1, Y16)) : Option ((Int32 × Int32 × Int32 × Sm) ⊕ (Int32 × Sm)))) = some (.inl (biI (nI 0) nI xf (j + 1), mxI xf m (j + 1), nI (j + 1), X2)) := by
        have key2 : ∀ (o : Option (Int32 × Sm)) (K : Int32 → Sm → Option ((Int32 × Int32 × Int32 × Sm) ⊕ (Int32 × Sm))) (v : Int32) (X2 : Sm), (bd o fun v Y3 => bd (fn_177 v Y3) fun v2 Y6 => some (v2, Y6)) = some (v, X2) → (bd o fun v Y3 => bd (fn_177 v Y3) K) = K v X2 := fun o K v X2 hk => by
          obtain ⟨v1, Y3, e1, hk⟩ := bd_some hk
          obtain ⟨v2, Y6, e2, hk⟩ := bd_some hk
          rw [e1, bd_t, e2, bd_t]
          have := Option.some.inj hk
          obtain ⟨rfl, rfl⟩ := Prod.mk.inj this
          rfl
        rw [key2 _ _ _ _ eX2, nI_add]
        exact mx_step (b := m) hxb hj (nI 0) nI (fun y x => some (Sum.inl (y, x, nI (j + 1), X2)))
      refine ⟨.inl (biI (nI 0) nI xf (j + 1), mxI xf m (j + 1), nI (j + 1), X2), ?_, rfl, rfl, rfl, qX.tr qX2⟩
      simp only [fn_264_L20]
      rw [iteI_lt_f (by omega) (by omega), r_176, bd_t, hX.2.1, wr_t, sI_sF, gI_sFk (by omega), hX.2.1]
      exact eT
    · rintro ⟨l1, l2, l3, X⟩ ⟨E1, E2, E3, qX⟩
      have E1 : l1 = _ := E1
      have E2 : l2 = _ := E2
      have E3 : l3 = nI 3 := E3
      subst E1 E2 E3
      have qX : QE (sI W 48 0 0 (nI 0)) X := qX
      refine ⟨.inr (_, X), ?_, X, rfl, qX⟩
      simp only [fn_264_L20]
      rw [iteI_lt_t (by omega) (by omega)]
    · exact ⟨rfl, rfl, rfl, QE.rf⟩
