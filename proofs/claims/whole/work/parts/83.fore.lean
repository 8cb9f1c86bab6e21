/-! forecasts: the reference tries, the class's trial state -/
def ansO (r : Nat → Int32) (A : Int32) : Int32 := if A = (-1 : Int32) then r 7 else r (52 + ix A)
def AsK (A : Int32) (n : Nat) : Prop := A = (-1 : Int32) ∨ ∃ a, a < n ∧ A = nI a
theorem r_206 {W : Sm} {A : Int32} {n : Nat} (hA : AsK A n) (hn : n ≤ 8) : fn_206 A W = some (ansO (gI W.1 52 0) A, W) := by
  unfold fn_206 ansO
  rcases hA with rfl | ⟨a, ha, rfl⟩
  · rw [if_pos rfl, if_pos rfl]
  · rw [if_neg (nI_ne_m1 (by omega)), if_neg (nI_ne_m1 (by omega)), nI_add, ck_in (by omega) (by omega), ix_nI (by omega), ix_nI (by omega)]
theorem r_207 {W : Sm} {P : Pm} {r : Nat → Int32} {t n m s tu ro k : Nat} {A : Int32} (hM : ML W P r) (hS : SetI P tu ro) (hk : k < 1000000) (ht : t + k < 2 ^ 31) (hA : AsK A P.2.1) (h : GR P r t n m s) : ∃ f r' n' m', fn_207 (nI k) A W = some (ansO r' A - ansO r A, sF (sF W 58 0 f) 52 0 r') ∧ TkN P tu ro t s k n m r n' m' r' ∧ GR P r' (t + k) n' m' s := by
  have h3 := hM.1.2.2.1
  obtain ⟨f, r', n', m', e, hT, hG⟩ := r_goes (Y := W) (a2 := A) (l3 := ansO r A) (k := k) hM.1 hM.2.2 hS hk ht (by rw [hM.2.1]; exact h)
  rw [hM.2.1] at hT
  refine ⟨f, r', n', m', ?_, hT, hG⟩
  unfold fn_207
  rw [r_206 hA h3.2.2.2, hM.2.1, bd_t, e, exd_l]
  unfold fn_207_J25
  rw [r_206 hA h3.2.2.2, gI_sFs, bd_t]
theorem r_176 (W : Sm) : fn_176 W = some ((), sF W 55 0 (cpy (gI W.1 52 0) (gI W.1 55 0))) := by
  unfold fn_176
  rw [r_cp52_55, bd_t]
theorem r_177 (v : Int32) (W : Sm) : fn_177 v W = some (v, sF W 52 0 (cpy (gI W.1 55 0) (gI W.1 52 0))) := by
  unfold fn_177
  rw [r_cp55_52, bd_t]
/-- behind a try the row is back -/
theorem r_back {W X : Sm} {r : Nat → Int32} (e : gI W.1 52 0 = r) (hX : ∃ f g, X = sF (sF (sF W 55 0 (cpy r (gI W.1 55 0))) 58 0 f) 52 0 g) (v : Int32) : ∃ Z, fn_177 v X = some (v, Z) ∧ QM W Z ∧ gI Z.1 48 0 = gI W.1 48 0 := by
  obtain ⟨f, g, hX⟩ := hX
  have x55 : gI X.1 55 0 = cpy r (gI W.1 55 0) := by rw [hX, gI_sFk (by omega), gI_sFk (by omega), gI_sFs]
  refine ⟨_, r_177 v X, ⟨by rw [hX]; rfl, fun k i hk => ⟨?_, by rw [hX]; rfl⟩, fun x _ => ?_, fun q hq => ?_⟩, ?_⟩
  · simp only [List.mem_cons, List.mem_nil_iff, or_false, not_or] at hk
    rw [gI_sFk (by omega), hX, gI_sFk (by omega), gI_sFk (by omega), gI_sFk (by omega)]
  · rw [gI_sFk (by omega), hX, gI_sFk (by omega), gI_sFk (by omega), gI_sFk (by omega)]
  · rw [gI_sFs, cpy_lt hq, x55, cpy_lt hq, e]
  · rw [gI_sFk (by omega), hX, gI_sFk (by omega), gI_sFk (by omega), gI_sFk (by omega)]
/-- ticks behind a change of the row, then back -/
theorem r_tr {W : Sm} {P : Pm} {r r1 : Nat → Int32} {t n m s tu ro k : Nat} {A : Int32} (hM : ML W P r) (hS : SetI P tu ro) (hk : k < 1000000) (ht : t + k < 2 ^ 31) (hA : AsK A P.2.1) (h : GR P r1 t n m s) : ∃ r' n' m' Z, (bd (fn_207 (nI k) A (sF (sF W 55 0 (cpy r (gI W.1 55 0))) 52 0 r1)) fun v Y3 => bd (fn_177 v Y3) fun v2 Y6 => some (v2, Y6)) = some (ansO r' A - ansO r1 A, Z) ∧ TkN P tu ro t s k n m r1 n' m' r' ∧ GR P r' (t + k) n' m' s ∧ QM W Z ∧ gI Z.1 48 0 = gI W.1 48 0 := by
  have hM1 : ML (sF (sF W 55 0 (cpy r (gI W.1 55 0))) 52 0 r1) P r1 := ⟨(hM.1.sF (by omega) (by omega)).sF (by omega) (by omega), gI_sFs _ _ _ _, by rw [gI_sFk (by omega), gI_sFk (by omega)]; exact hM.2.2⟩
  obtain ⟨f, r', n', m', e, hT, hG⟩ := r_207 hM1 hS hk ht hA h
  obtain ⟨Z, eZ, qZ, z48⟩ := r_back (W := W) (r := r) (X := sF (sF (sF (sF W 55 0 (cpy r (gI W.1 55 0))) 52 0 r1) 58 0 f) 52 0 r') hM.2.1 ⟨f, r', by
    have : ∀ (X : Sm), sF (sF (sF X 52 0 r1) 58 0 f) 52 0 r' = sF (sF X 58 0 f) 52 0 r' := fun X => by
      have : (fun a b c => if a = 52 ∧ b = 0 then r' c else (if a = 58 ∧ b = 0 then f c else (if a = 52 ∧ b = 0 then r1 c else X.1.1 a b c))) = (fun a b c => if a = 52 ∧ b = 0 then r' c else (if a = 58 ∧ b = 0 then f c else X.1.1 a b c)) := by
        funext a b c
        by_cases z : a = 52 ∧ b = 0
        · rw [if_pos z, if_pos z]
        · rw [if_neg z, if_neg z, if_neg z]
      exact congrArg (fun g => ((g, X.1.2), X.2)) this
    exact this _⟩ (ansO r' A - ansO r1 A)
  refine ⟨r', n', m', Z, ?_, hT, hG, qZ, z48⟩
  rw [e, bd_t, eZ, bd_t]
theorem r_260 {W : Sm} {P : Pm} {r : Nat → Int32} {t n m s tu ro k : Nat} {A : Int32} (hM : ML W P r) (hS : SetI P tu ro) (hk : k < 1000000) (ht : t + k < 2 ^ 31) (hA : AsK A P.2.1) (h : GR P r t n m s) : ∃ r' n' m' Z, fn_260 (nI k) A W = some (ansO r' A - ansO r A, Z) ∧ TkN P tu ro t s k n m r n' m' r' ∧ GR P r' (t + k) n' m' s ∧ QM W Z ∧ gI Z.1 48 0 = gI W.1 48 0 := by
  obtain ⟨r', n', m', Z, e, hT, hG, qZ, z48⟩ := r_tr hM hS hk ht hA h
  refine ⟨r', n', m', Z, ?_, hT, hG, qZ, z48⟩
  unfold fn_260
  rw [r_176, bd_t, hM.2.1]
  have e2 : sF (sF W 55 0 (cpy r (gI W.1 55 0))) 52 0 r = sF W 55 0 (cpy r (gI W.1 55 0)) := by
    have := sF_self (sF W 55 0 (cpy r (gI W.1 55 0))) 52 0
    rw [gI_sFk (by omega), hM.2.1] at this
    exact this
  rw [e2] at e
  exact e
/-! the class's trial -/
theorem R6.try {Y : Sm} {c tu ro u pos : Nat} {P : Pm} {b : Bool} (h : R6 Y c P tu ro u pos b) {n m t s : Nat} (hR : CR Y 0 P (gI Y.1 52 0) n m) (hG : GR P (gI Y.1 52 0) t n m s) : ∃ Z, fn_72 1 0 Y = some ((), Z) ∧ QC Y Z ∧ CR Z 1 P (gI Y.1 52 0) n m := by
  obtain ⟨Z, eZ, fZ, cZ⟩ := c_72 (i0 := 1) (i1 := 0) (by omega) h.1.a8 hG.2.1.1 hG.2.2.2.2.1 hR
  exact ⟨Z, eZ, QC.s2 fZ, cZ⟩
theorem c_75 {Y : Sm} {n q m : Nat} {P : Pm} {r : Nat → Int32} {A : Int32} (hR : CR Y n P r q m) (hA : AsK A P.2.1) (h8 : P.2.1 ≤ 8) : fn_75 n A Y = some (ansO r A, Y) := by
  unfold fn_75 ansO
  rcases hA with rfl | ⟨a, ha, rfl⟩
  · rw [if_pos rfl, if_pos rfl, hR.a 7 (by omega)]
  · rw [if_neg (nI_ne_m1 (by omega)), if_neg (nI_ne_m1 (by omega)), ck_in (by omega) (by omega), ix_nI (by omega), (hR.u a ha).2.2.2.2.1]
/-- the answers grow -/
theorem AnI.up {P : Pm} {t tu ro n m n' m' : Nat} {lo : Int32} {r r' : Nat → Int32} (hd : P.1 ≤ 5 ∧ P.2.1 ≤ 8) (h : TkR P lo t tu ro n m n' m' r r') : m ≤ m' ∧ ∀ b, b < P.2.1 → r' (52 + b) = r (52 + b) ∨ r' (52 + b) = r (52 + b) + nI 1 := by
  obtain ⟨q1, q2, q3, hv, hp, ⟨q, hq, hw⟩, rfl⟩ := h
  have a1 : ∀ b, b < 8 → q1 (52 + b) = r (52 + b) := fun b hb => by
    rcases hv with ⟨_, f, _, rfl⟩ | ⟨_, rfl⟩
    · unfold ordS
      rw [if_neg (by omega), if_neg (by omega), if_neg (by omega)]
    · rfl
  have a2 : ∀ b, b < 8 → q2 (52 + b) = r (52 + b) := fun b hb => by
    rw [← a1 b hb]
    rcases hp with ⟨_, _, x, _, _, rfl⟩ | ⟨_, rfl⟩
    · unfold pasS
      rw [if_neg (by omega), if_neg (by omega), if_neg (fun z => by omega)]
    · rfl
  have a3 : ∀ b, b < 8 → q (52 + b) = r (52 + b) := fun b hb => by
    rw [← a2 b hb]
    rcases hq with ⟨_, rfl⟩ | ⟨_, rfl⟩
    · unfold takS
      cases Nat.ble P.1 (nxtN q2 n P.1) with
      | true => rfl
      | false => rw [cnd_f, upd_ne (by omega)]
    · rfl
  rcases hw with ⟨_, rfl, _, rfl⟩ | ⟨i, a, k, l, _, hi, _, ea, ha, ek, hk, _, _, ⟨_, rfl, _, rfl⟩ | ⟨_, rfl, _, rfl⟩⟩
  · exact ⟨Nat.le_refl _, fun b hb => Or.inl (by rw [upd_ne (by omega)]; exact a3 b (by omega))⟩
  · refine ⟨Nat.le_succ _, fun b hb => ?_⟩
    rw [upd_ne (by omega), ans_lo (by omega) (by omega), ← a3 b (by omega)]
    by_cases d : b = a
    · right
      subst d
      unfold an0S
      simp (disch := omega) only [upd_ne, upd_at, iteN_t, iteN_f, ↓reduceIte]
    · left
      rw [an0_o (by omega) (by omega) (by omega) (by omega) (by omega) (by omega) (by omega) (by omega) (by omega), upd_ne (by omega)]
  · exact ⟨Nat.le_refl _, fun b hb => Or.inl (by rw [upd_ne (by omega), upd_ne (by omega)]; exact a3 b (by omega))⟩
/-- what a number of ticks brings: at least as much as there was -/
theorem TkN.up {P : Pm} {tu ro t s k n m n' m' x : Nat} {r r' : Nat → Int32} {A : Int32} (hd : P.1 ≤ 5 ∧ P.2.1 ≤ 8) (h : TkN P tu ro t s k n m r n' m' r') (hG : GR P r t n m s) (hG' : GR P r' (t + k) n' m' s) (hN : AnI r P.2.1 m) (hA : AsK A P.2.1) (hx : ansO r A = nI x) (hx2 : x ≤ m) : ∃ x', x ≤ x' ∧ x' ≤ m' ∧ ansO r' A = nI x' := by
  have hN' := h.an hd hN
  obtain ⟨R, N, M, ⟨a1, a2, a3⟩, ⟨b1, b2, b3⟩, hc⟩ := h
  have hm : ∀ j, j ≤ k → m ≤ M j := fun j => by
    induction j with
    | zero => intro _; rw [a3]; exact Nat.le_refl _
    | succ j ih => intro hj; exact Nat.le_trans (ih (by omega)) (AnI.up hd (hc j (by omega)).2).1
  rcases hA with rfl | ⟨a, ha, rfl⟩
  · unfold ansO at hx ⊢
    rw [if_pos rfl] at hx ⊢
    have hms := hG.2.1.2
    have em : m = x := (nI_eq (by omega) (by omega)).mp (hG.1.2.2.1.symm.trans hx)
    have := hm k (Nat.le_refl _)
    exact ⟨m', by omega, Nat.le_refl _, hG'.1.2.2.1⟩
  · unfold ansO at hx ⊢
    rw [if_neg (nI_ne_m1 (by omega)), ix_nI (by omega)] at hx ⊢
    have hb : ∀ j, j ≤ k → M j ≤ 9999 := fun j hj => by
      by_cases d : j = k
      · rw [d, b3]; have := hG'.2.1; omega
      · have := (hc j (by omega)).1.2.1; omega
    have key : ∀ j, j ≤ k → AnI (R j) P.2.1 (M j) ∧ ∃ z, x ≤ z ∧ z ≤ M j ∧ R j (52 + a) = nI z := fun j => by
      induction j with
      | zero => intro _; rw [a1, a3]; exact ⟨hN, x, Nat.le_refl _, hx2, hx⟩
      | succ j ih =>
        intro hj
        obtain ⟨hNj, z, hz, hzm, ez⟩ := ih (by omega)
        have hN1 := (hc j (by omega)).2.an hd hNj
        have h1 := hb j (by omega)
        have h2 := hb (j + 1) hj
        refine ⟨hN1, ?_⟩
        obtain ⟨m1, m2⟩ := AnI.up hd (hc j (by omega)).2
        rcases m2 a ha with e | e
        · exact ⟨z, hz, by omega, by rw [e, ez]⟩
        · obtain ⟨w, hw, ew⟩ := hN1 a ha
          rw [e, ez, nI_add] at ew
          have ew := (nI_eq (by omega) (by omega)).mp ew
          exact ⟨z + 1, by omega, by omega, by rw [e, ez, nI_add]⟩
    obtain ⟨_, z, hz, hzm, ez⟩ := key k (Nat.le_refl _)
    rw [b1, b3] at *
    exact ⟨z, hz, hzm, ez⟩
/-- the class passes the ticks, in its trial state -/
theorem c_val {Z : Sm} {c n m n' m' t s tu ro k : Nat} {P : Pm} {r1 r' : Nat → Int32} {A : Int32} (h3 : 0 < P.1 ∧ P.1 ≤ 5 ∧ 0 < P.2.1 ∧ P.2.1 ≤ 8) (hW : WI P) (hS : SetI P tu ro) (hs : s ≤ 1000) (ht : t + k ≤ 1000000) (hk : k < 1000000) (hA : AsK A P.2.1) (hR : CR Z c P r1 n m) (hT : TkN P tu ro t s k n m r1 n' m' r') : ∃ Z2, fn_85 c (nI k) Z = some ((), Z2) ∧ Fr (SS c) Z Z2 ∧ fn_75 c A Z2 = some (ansO r' A, Z2) ∧ CR Z2 c P r' n' m' := by
  obtain ⟨Z2, e, f, cr⟩ := c_85 h3 hW hS hs ht hk hR hT
  exact ⟨Z2, e, f, c_75 cr hA h3.2.2.2, cr⟩
/-- what ticks bring is the same on every road -/
theorem tk_det {Z : Sm} {c n m n' m' n2 m2 t s tu ro k : Nat} {P : Pm} {r1 r' r2 : Nat → Int32} {A : Int32} (h3 : 0 < P.1 ∧ P.1 ≤ 5 ∧ 0 < P.2.1 ∧ P.2.1 ≤ 8) (hW : WI P) (hS : SetI P tu ro) (hs : s ≤ 1000) (ht : t + k ≤ 1000000) (hk : k < 1000000) (hA : AsK A P.2.1) (hR : CR Z c P r1 n m) (hT : TkN P tu ro t s k n m r1 n' m' r') (hT2 : TkN P tu ro t s k n m r1 n2 m2 r2) : ansO r' A = ansO r2 A := by
  obtain ⟨Z1, e1, _, f1, _⟩ := c_val h3 hW hS hs ht hk hA hR hT
  obtain ⟨Z2, e2, _, f2, _⟩ := c_val h3 hW hS hs ht hk hA hR hT2
  rw [e1] at e2
  have eZ : Z1 = Z2 := congrArg Prod.snd (Option.some.inj e2)
  subst eZ
  rw [f1] at f2
  exact congrArg Prod.fst (Option.some.inj f2)
/-- a query whose answer the reference's road tells -/
theorem w_valT {f g : Sm → Option (Int32 × Sm)} {F : Sm → Option ((Int32 ⊕ Nat) × Sm)} {kx : Nat → Sm → Option (Int32 × Sm)} {Y : Sm} {c tu ro u pos : Nat} {P : Pm} {b : Bool} (T : Int32 → Prop) (h : R6 Y c P tu ro u pos b) (ef : f Y = bx (F Y) kx (fun v Y1 => wr (sJ Y1 66 0 0 v.toInt64) fun Y4 => some (nI 0, Y4))) (hM : ∀ W, QF Y W → gI W.1 52 = gI Y.1 52 → ∃ v, T v ∧ MqS g W v (nI 0)) (hC : ∀ v, T v → CqS F Y (.inl v)) : Cok f g Y c := by
  obtain ⟨v0, t0, _⟩ := hM Y QF.rf rfl
  obtain ⟨Z, e, hq⟩ := hC v0 t0
  have hq2 : QF Y (sJ Z 66 0 0 v0.toInt64) := hq.f.tr QF.j66
  obtain ⟨v, t1, Z2, e2, hm, hk⟩ := hM _ hq2 (funext fun i => hq.m (by omega))
  obtain ⟨Z', e', hq'⟩ := hC v t1
  rw [e] at e'
  have ev : v0 = v := Sum.inl.inj (congrArg Prod.fst (Option.some.inj e'))
  subst ev
  have e68 : gI Z.1 68 = gI Y.1 68 := funext fun i => hq.m (by omega)
  refine ⟨nI 0, sJ Z 66 0 0 v0.toInt64, v0, Z2, ?_, e2, e68, (funext fun i => (hm.2.1 68 i (by decide)).1).trans e68, hk, fun _ => ?_, P, tu, ro, u, pos, b, ((h.q hq2).q hm.f).up (by omega)⟩
  · rw [ef, e, bx_l, wr_t]
  · rw [(hm.2.1 66 0 (by decide)).2, gJ_sJ, if_pos ⟨rfl, rfl, rfl⟩]
theorem s_qT {f g : Sm → Option (Int32 × Sm)} {Y : Sm} {c tu ro u pos : Nat} {P : Pm} {b : Bool} (T : Int32 → Prop) (h : R6 Y c P tu ro u pos b) (hM : ∀ W, QF Y W → gI W.1 52 = gI Y.1 52 → ∃ v, T v ∧ ∃ k, MqS g W v k) (hC : ∀ v, T v → CqS f Y v) : Sok f g Y c := by
  obtain ⟨v0, t0, _⟩ := hM Y QF.rf rfl
  obtain ⟨Z, e, hq⟩ := hC v0 t0
  obtain ⟨v, t1, k, Z2, e2, hm, _⟩ := hM Z hq.f (funext fun i => hq.m (by omega))
  obtain ⟨Z', e', hq'⟩ := hC v t1
  rw [e] at e'
  have ev : v0 = v := congrArg Prod.fst (Option.some.inj e')
  subst ev
  have e68 : gI Z.1 68 = gI Y.1 68 := funext fun i => hq.m (by omega)
  exact ⟨v0, Z, Z2, e, e2, e68, (funext fun i => (hm.2.1 68 i (by decide)).1).trans e68, P, tu, ro, u, pos, b, ((h.q hq.f).q hm.f).up (by omega)⟩
theorem tk_in {a : Int32} {N : Nat} (h : (inb a (N + 1) && !decide (a = nI 0)) = true) (hN : N < 1000) : ∃ k, (1 ≤ k ∧ k ≤ N) ∧ a = nI k := by
  obtain ⟨b1, b2⟩ := Bool.and_eq_true_iff.mp h
  obtain ⟨k, hk, rfl⟩ := inb_of b1 (by omega)
  refine ⟨k, ⟨?_, by omega⟩, rfl⟩
  rcases Nat.eq_zero_or_pos k with z | z
  · rw [z] at b2; cases b2
  · exact z
theorem ok_40 {Y : Sm} {c : Nat} (hc : c < 600) (a w : Int32) (h : RR Y c) : Cok (fn_328 a w) (fn_261 a w) Y c := by
  obtain ⟨P, tu, ro, u, pos, b, h⟩ := h
  have h3 := h.1.a8
  obtain ⟨e0, t, n, m, s, hR, hG, ht, hs, hN⟩ := h.cl
  have core : AsK w P.2.1 → ∀ (F : Sm → Option ((Int32 ⊕ Nat) × Sm)) (J : Sm → Option (Int32 × Sm)), (F Y = fn_144_J10 a w Y) → (∀ W, ML W P (gI Y.1 52 0) → J W = fn_261_J19 a w (nI 1) W) → Cok (fun Y => bx (F Y) (fun x5 Y1 => if x5 = 0 then some ((nI 1), Y1) else if x5 = 1 then some ((nI 2), Y1) else none) fun v3 Y1 => wr (sJ Y1 66 0 0 ((v3).toInt64)) fun Y4 => some ((nI 0), Y4)) J Y c := fun hw F J eF eJ => by
    cases hb : (inb a 501 && !decide (a = nI 0)) with
    | false =>
      refine w_exc (F := F) (x := 1) (k := nI 2) h rfl (by decide) (fun _ => (if_neg (by decide)).trans (if_pos rfl)) ⟨Y, ?_, QC.rf⟩ (fun W hq e => ⟨nI 0, sI (sI W 48 0 0 (nI 0)) 48 0 0 (nI 2), ?_, QM.told.tr QM.told, told_at⟩)
      · rw [eF]
        unfold fn_144_J10
        rw [c_157 (by omega), hb, cnd_f, bx_r]
      · rw [eJ W (h.mw hq e)]
        unfold fn_261_J19
        rw [g_is1, r_areTicks, hb, bd_t, g_may, cnd_f]
    | true =>
      obtain ⟨k, hk, rfl⟩ := tk_in hb (by omega)
      refine w_valT (F := F) (fun v => ∃ n' m' r', TkN P tu ro t s k n m (gI Y.1 52 0) n' m' r' ∧ v = ansO r' w - ansO (gI Y.1 52 0) w) h rfl (fun W hq e => ?_) ?_
      · have hT := (h.mw hq e).told (v := nI 0)
        obtain ⟨r', n', m', Z, eZ, tZ, _, qZ, z48⟩ := r_260 (hT.told (v := nI 0)) h.1.2.2.1 (k := k) (by omega) (by omega) hw hG
        refine ⟨_, ⟨n', m', r', tZ, rfl⟩, Z, ?_, (QM.told.tr QM.told).tr qZ, by rw [z48, gI_sIv, upd_at]⟩
        rw [eJ W (h.mw hq e)]
        unfold fn_261_J19
        rw [g_is1, r_areTicks, hb, bd_t, g_may, cnd_t, eZ, bd_t]
      · rintro v ⟨n', m', r', hT, rfl⟩
        obtain ⟨Z, eZ, qZ, cZ⟩ := h.try hR hG
        obtain ⟨Z2, e2, f2, v2, c2⟩ := c_val h3 h.1.2.1 h.1.2.2.1 (by omega) (by omega) (by omega) hw cZ hT
        have q2 := qZ.tr (QC.s1 f2)
        obtain ⟨_, t0, n0, m0, s0, hR2, _⟩ := (h.q q2.f).cl
        rw [q2.m (by omega)] at hR2
        refine ⟨Z2, ?_, q2⟩
        rw [eF]
        unfold fn_144_J10
        rw [c_157 (by omega), hb, cnd_t, bx_l, eZ, bd_t, e2, bd_t, v2, bd_t, c_75 hR2 hw h3.2.2.2, bd_t]
  by_cases hm : w = (-1 : Int32)
  · refine core (Or.inl hm) (fn_144 a w) (fn_261 a w) ?_ (fun W _ => ?_)
    · unfold fn_144
      rw [if_pos hm]
    · unfold fn_261 fn_261_J14
      rw [if_pos hm]
  · cases hb : inb w P.2.1 with
    | false =>
      refine w_exc (F := fn_144 a w) (x := 0) (k := nI 1) h rfl (by decide) (fun _ => if_pos rfl) ⟨Y, ?_, QC.rf⟩ (fun W hq e => ⟨nI 0, sI W 48 0 0 (nI 1), ?_, QM.told, told_at⟩)
      · unfold fn_144
        rw [if_neg hm, h.c154, hb, cnd_f, bx_r]
      · unfold fn_261 fn_261_J19
        rw [if_neg hm, (h.mw hq e).ask, hb, g_if, cnd_f, g_is0]
    | true =>
      obtain ⟨x, hx, rfl⟩ := inb_of hb (by omega)
      refine core (Or.inr ⟨x, hx, rfl⟩) (fn_144 a (nI x)) (fn_261 a (nI x)) ?_ (fun W hW => ?_)
      · unfold fn_144
        rw [if_neg hm, h.c154, hb, cnd_t, bx_l]
        rfl
      · unfold fn_261 fn_261_J14
        rw [if_neg hm, hW.ask, hb, g_if, cnd_t]
