/-! queries: votes -/
theorem ML.pts {W : Sm} {P : Pm} {r : Nat → Int32} (h : ML W P r) (hB : BalI r P.1 P.2.1) {k : Nat} (hk : k < P.1) : fn_193 (nI k) W = some (ptsS P r (-1 : Int32) k, W) := by
  have e := r_pointsOf h.1 (by rw [h.2.1]; exact hB) hk
  rw [h.2.1, h.2.2] at e
  exact e
theorem ML.fst {W : Sm} {P : Pm} {r : Nat → Int32} (h : ML W P r) {k p : Nat} (hp : p < P.1) : fn_194 (nI k) (nI p) W = some (fstS P r (-1 : Int32) k p, W) := by
  have e := r_firstsOf (k := k) h.1 hp
  rw [h.2.1, h.2.2] at e
  exact e
theorem ML.beat {W : Sm} {P : Pm} {r : Nat → Int32} (h : ML W P r) (hB : BalI r P.1 P.2.1) {k o : Nat} (hk : k < P.1) (ho : o < P.1) : fn_196 (nI k) (nI o) W = some (bI (beatS P r (-1 : Int32) k o), W) := by
  have e := r_doesBeat h.1 (by rw [h.2.1]; exact hB) hk ho
  rw [h.2.1, h.2.2] at e
  exact e
theorem ML.wins {W : Sm} {P : Pm} {r : Nat → Int32} (h : ML W P r) (hB : BalI r P.1 P.2.1) {k : Nat} (hk : k < P.1) : fn_197 (nI k) W = some (nI (winsS P r (-1 : Int32) k), W) := by
  have e := r_winsOf h.1 (by rw [h.2.1]; exact hB) hk
  rw [h.2.1, h.2.2] at e
  exact e
theorem ML.any {W : Sm} {P : Pm} {r : Nat → Int32} (h : ML W P r) : fn_190 W = some (bI (anyS P r (-1 : Int32)), W) := by
  have e := r_anyCount h.1
  rw [h.2.1, h.2.2] at e
  exact e
theorem ML.tal {W : Sm} {P : Pm} {r : Nat → Int32} (h : ML W P r) (hB : BalI r P.1 P.2.1) (t : Int32) : ∃ f, fn_199 t W = some ((), sF W 58 0 f) ∧ OutOK P r (-1 : Int32) t f := by
  have e := r_tallies h.1 (by rw [h.2.1]; exact hB) t
  rw [h.2.1, h.2.2] at e
  exact ⟨_, e, outc_ok P r (-1 : Int32) t (gI W.1 58 0)⟩
theorem ok_15 {Y : Sm} {c : Nat} (a : Int32) (h : RR Y c) : Cok (fn_307 a) (fn_239 a) Y c := by
  obtain ⟨P, tu, ro, u, pos, b, h⟩ := h
  have h3 := h.1.a8
  have hN := h.pn
  cases hb : inb a P.1 with
  | false =>
    refine w_exc (F := fn_119 a) (x := 0) (k := nI 1) h rfl (by decide) (fun _ => if_pos rfl) ⟨Y, ?_, QC.rf⟩ (fun W hq e => ⟨nI 0, sI W 48 0 0 (nI 1), ?_, QM.told, told_at⟩)
    · unfold fn_119
      rw [h.c155, hb, cnd_f, bx_r]
    · unfold fn_239
      rw [(h.mw hq e).cls, hb, bd_t, g_is, cnd_f]
  | true =>
    obtain ⟨k, hk, rfl⟩ := inb_of hb (by omega)
    obtain ⟨Z, eZ, qZ, _, pZ⟩ := h.poll (-1 : Int32)
    refine w_val (F := fn_119 (nI k)) (v := ptsS P (gI Y.1 52 0) (-1 : Int32) k) h rfl ⟨Z, ?_, qZ⟩ (fun W hq e => ⟨sI W 48 0 0 (nI 0), ?_, QM.told, told_at⟩)
    · unfold fn_119
      rw [h.c155, hb, cnd_t, bx_l, eZ, bd_t, ck_in (by omega) (by omega), ix_nI (by omega), pZ.pts hN hk]
    · unfold fn_239
      rw [(h.mw hq e).cls, hb, bd_t, g_is, cnd_t, (h.mw hq e).told.pts hN.2.1 hk, bd_t]
theorem ok_18 {Y : Sm} {c : Nat} (a : Int32) (h : RR Y c) : Cok (fn_310 a) (fn_242 a) Y c := by
  obtain ⟨P, tu, ro, u, pos, b, h⟩ := h
  have h3 := h.1.a8
  have hN := h.pn
  cases hb : inb a P.1 with
  | false =>
    refine w_exc (F := fn_122 a) (x := 0) (k := nI 1) h rfl (by decide) (fun _ => if_pos rfl) ⟨Y, ?_, QC.rf⟩ (fun W hq e => ⟨nI 0, sI W 48 0 0 (nI 1), ?_, QM.told, told_at⟩)
    · unfold fn_122
      rw [h.c155, hb, cnd_f, bx_r]
    · unfold fn_242
      rw [(h.mw hq e).cls, hb, bd_t, g_is, cnd_f]
  | true =>
    obtain ⟨k, hk, rfl⟩ := inb_of hb (by omega)
    obtain ⟨Z, eZ, qZ, _, pZ⟩ := h.poll (-1 : Int32)
    refine w_val (F := fn_122 (nI k)) (v := nI (winsS P (gI Y.1 52 0) (-1 : Int32) k)) h rfl ⟨Z, ?_, qZ⟩ (fun W hq e => ⟨sI W 48 0 0 (nI 0), ?_, QM.told, told_at⟩)
    · unfold fn_122
      rw [h.c155, hb, cnd_t, bx_l, eZ, bd_t, ck_in (by omega) (by omega), ix_nI (by omega), pZ.2 k hk]
    · unfold fn_242
      rw [(h.mw hq e).cls, hb, bd_t, g_is, cnd_t, (h.mw hq e).told.wins hN.2.1 hk, bd_t]
theorem ok_16 {Y : Sm} {c : Nat} (a p : Int32) (h : RR Y c) : Cok (fn_308 a p) (fn_240 a p) Y c := by
  obtain ⟨P, tu, ro, u, pos, b, h⟩ := h
  have h3 := h.1.a8
  have hN := h.pn
  cases hb : inb a P.1 with
  | false =>
    refine w_exc (F := fn_120 a p) (x := 0) (k := nI 1) h rfl (by decide) (fun _ => if_pos rfl) ⟨Y, ?_, QC.rf⟩ (fun W hq e => ⟨nI 0, sI W 48 0 0 (nI 1), ?_, QM.told, told_at⟩)
    · unfold fn_120
      rw [h.c155, hb, cnd_f, bx_r]
    · unfold fn_240 fn_240_J21 fn_240_J22
      rw [(h.mw hq e).cls, hb, g_if, cnd_f, g_is0]
  | true =>
    cases hc : inb p P.1 with
    | false =>
      refine w_exc (F := fn_120 a p) (x := 0) (k := nI 1) h rfl (by decide) (fun _ => if_pos rfl) ⟨Y, ?_, QC.rf⟩ (fun W hq e => ⟨nI 0, sI W 48 0 0 (nI 1), ?_, QM.told, told_at⟩)
      · unfold fn_120
        rw [h.c155, hb, cnd_t, bx_l, h.c155, hc, cnd_f, bx_r]
      · unfold fn_240 fn_240_J21 fn_240_J22
        rw [(h.mw hq e).cls, hb, g_if, cnd_t, (h.mw hq e).cls, hc, g_if, cnd_f, g_is0]
    | true =>
      obtain ⟨x, hx, rfl⟩ := inb_of hb (by omega)
      obtain ⟨k, hk, rfl⟩ := inb_of hc (by omega)
      obtain ⟨Z, eZ, qZ, _, pZ⟩ := h.poll (-1 : Int32)
      refine w_val (F := fn_120 (nI x) (nI k)) (v := fstS P (gI Y.1 52 0) (-1 : Int32) x k) h rfl ⟨Z, ?_, qZ⟩ (fun W hq e => ⟨sI W 48 0 0 (nI 0), ?_, QM.told, told_at⟩)
      · unfold fn_120
        rw [h.c155, hb, cnd_t, bx_l, h.c155, hc, cnd_t, bx_l, eZ, bd_t, ck_in (by omega) (by omega), ck_in (by omega) (by omega), ix_nI (by omega), ix_nI (by omega), pZ.1.2.2.2.1 x k hx hk]
        rfl
      · unfold fn_240 fn_240_J22
        rw [(h.mw hq e).cls, hb, g_if, cnd_t, (h.mw hq e).cls, hc, g_if, cnd_t, g_is1, (h.mw hq e).told.fst hk, bd_t]
/-- with an answer that is true or false -/
def Cokb (f g : Sm → Option (Int32 × Sm)) (Y : Sm) (c : Nat) : Prop := ∃ k Z1 v Z2, f Y = some (k, Z1) ∧ g Z1 = some (bI v, Z2) ∧ gI Z1.1 68 = gI Y.1 68 ∧ gI Z2.1 68 = gI Y.1 68 ∧ gI Z2.1 48 0 0 = k ∧ (k = nI 0 → gJ Z2.1 66 0 0 = (bI v).toInt64) ∧ RR Z2 (c + 1)
theorem w_valb {f g : Sm → Option (Int32 × Sm)} {F : Sm → Option ((Int32 ⊕ Nat) × Sm)} {kx : Nat → Sm → Option (Int32 × Sm)} {Y : Sm} {c tu ro u pos : Nat} {P : Pm} {b : Bool} {v : Bool} (h : R6 Y c P tu ro u pos b) (ef : f Y = bx (F Y) kx (fun v Y1 => if v = nI 0 then wr (sJ Y1 66 0 0 (Int64.ofNat 0)) (fun Y4 => some (nI 0, Y4)) else wr (sJ Y1 66 0 0 (Int64.ofNat 1)) fun Y5 => some (nI 0, Y5))) (hf : CqS F Y (.inl (bI v))) (hg : ∀ W, QF Y W → gI W.1 52 = gI Y.1 52 → MqS g W (bI v) (nI 0)) : Cokb f g Y c := by
  obtain ⟨Z, e, hq⟩ := hf
  have hq2 : QF Y (sJ Z 66 0 0 (bI v).toInt64) := hq.f.tr QF.j66
  obtain ⟨Z2, e2, hm, hk⟩ := hg _ hq2 (funext fun i => hq.m (by omega))
  have e68 : gI Z.1 68 = gI Y.1 68 := funext fun i => hq.m (by omega)
  refine ⟨nI 0, sJ Z 66 0 0 (bI v).toInt64, v, Z2, ?_, e2, e68, (funext fun i => (hm.2.1 68 i (by decide)).1).trans e68, hk, fun _ => ?_, P, tu, ro, u, pos, b, ((h.q hq2).q hm.f).up (by omega)⟩
  · rw [ef, e, bx_l, bI_0]
    cases v
    · rw [cnd_f, wr_t]; rfl
    · rw [cnd_t, wr_t]; rfl
  · rw [(hm.2.1 66 0 (by decide)).2, gJ_sJ, if_pos ⟨rfl, rfl, rfl⟩]
theorem w_excb {f g : Sm → Option (Int32 × Sm)} {F : Sm → Option ((Int32 ⊕ Nat) × Sm)} {kx : Nat → Sm → Option (Int32 × Sm)} {kv : Int32 → Sm → Option (Int32 × Sm)} {Y : Sm} {c tu ro u pos : Nat} {P : Pm} {b : Bool} {x : Nat} {k : Int32} (h : R6 Y c P tu ro u pos b) (ef : f Y = bx (F Y) kx kv) (hk0 : k ≠ nI 0) (hx : ∀ Z, kx x Z = some (k, Z)) (hf : CqS F Y (.inr x)) (hg : ∀ W, QF Y W → gI W.1 52 = gI Y.1 52 → ∃ v, MqS g W (bI v) k) : Cokb f g Y c := by
  obtain ⟨Z, e, hq⟩ := hf
  obtain ⟨v, Z2, e2, hm, hk⟩ := hg Z hq.f (funext fun i => hq.m (by omega))
  have e68 : gI Z.1 68 = gI Y.1 68 := funext fun i => hq.m (by omega)
  refine ⟨k, Z, v, Z2, ?_, e2, e68, (funext fun i => (hm.2.1 68 i (by decide)).1).trans e68, hk, fun z => absurd z hk0, P, tu, ro, u, pos, b, ((h.q hq.f).q hm.f).up (by omega)⟩
  rw [ef, e, bx_r, hx]
theorem ok_17 {Y : Sm} {c : Nat} (a p : Int32) (h : RR Y c) : Cokb (fn_309 a p) (fn_241 a p) Y c := by
  obtain ⟨P, tu, ro, u, pos, b, h⟩ := h
  have h3 := h.1.a8
  have hN := h.pn
  cases hb : inb a P.1 with
  | false =>
    refine w_excb (F := fn_121 a p) (x := 0) (k := nI 1) h rfl (by decide) (fun _ => if_pos rfl) ⟨Y, ?_, QC.rf⟩ (fun W hq e => ⟨false, sI W 48 0 0 (nI 1), ?_, QM.told, told_at⟩)
    · unfold fn_121
      rw [h.c155, hb, cnd_f, bx_r]
    · unfold fn_241 fn_241_J21 fn_241_J22
      rw [(h.mw hq e).cls, hb, g_if, cnd_f, g_is0]
      rfl
  | true =>
    cases hc : inb p P.1 with
    | false =>
      refine w_excb (F := fn_121 a p) (x := 0) (k := nI 1) h rfl (by decide) (fun _ => if_pos rfl) ⟨Y, ?_, QC.rf⟩ (fun W hq e => ⟨false, sI W 48 0 0 (nI 1), ?_, QM.told, told_at⟩)
      · unfold fn_121
        rw [h.c155, hb, cnd_t, bx_l, h.c155, hc, cnd_f, bx_r]
      · unfold fn_241 fn_241_J21 fn_241_J22
        rw [(h.mw hq e).cls, hb, g_if, cnd_t, (h.mw hq e).cls, hc, g_if, cnd_f, g_is0]
        rfl
    | true =>
      obtain ⟨x, hx, rfl⟩ := inb_of hb (by omega)
      obtain ⟨k, hk, rfl⟩ := inb_of hc (by omega)
      obtain ⟨Z, eZ, qZ, _, pZ⟩ := h.poll (-1 : Int32)
      refine w_valb (F := fn_121 (nI x) (nI k)) (v := beatS P (gI Y.1 52 0) (-1 : Int32) x k) h rfl ⟨Z, ?_, qZ⟩ (fun W hq e => ⟨sI W 48 0 0 (nI 0), ?_, QM.told, told_at⟩)
      · unfold fn_121
        rw [h.c155, hb, cnd_t, bx_l, h.c155, hc, cnd_t, bx_l, eZ, bd_t, c_28 hN pZ.1 hx hk, bd_t, ck_bz]
      · unfold fn_241 fn_241_J22
        rw [(h.mw hq e).cls, hb, g_if, cnd_t, (h.mw hq e).cls, hc, g_if, cnd_t, g_is1, (h.mw hq e).told.beat hN.2.1 hx hk, bd_t, bI_t1]
theorem ok_19 {Y : Sm} {c : Nat} (h : RR Y c) : Sok fn_123 fn_243 Y c := by
  obtain ⟨P, tu, ro, u, pos, b, h⟩ := h
  have h3 := h.1.a8
  have hN := h.pn
  obtain ⟨Z, eZ, qZ, fZ, pZ⟩ := h.poll (-1 : Int32)
  have e5 : gI Z.1 5 (Z.2 0) 0 = nI P.1 := by
    rw [fZ.1, fZ.gI (by unfold KS; decide)]
    exact h.cp.1.1
  refine s_q (v := cond (anyS P (gI Y.1 52 0) (-1 : Int32)) (sres (fun k => decide (nI (winsS P (gI Y.1 52 0) (-1 : Int32) k) = nI (P.1 - 1))) P.1) (-1 : Int32)) h ⟨Z, ?_, qZ⟩ (fun W hq e => ⟨nI 0, sI W 48 0 0 (nI 0), ?_, QM.told, told_at⟩)
  · unfold fn_123
    rw [eZ, bd_t]
    cases ha : anyS P (gI Y.1 52 0) (-1 : Int32) with
    | false => rw [if_pos ((pZ.any hN).mpr ha), cnd_f]
    | true =>
      rw [if_neg (fun q => by rw [(pZ.any hN).mp q] at ha; cases ha), cnd_t]
      refine lp_sres _ P.1 (by omega) (fun j hj hp => ?_) (fun j hj hp => ?_) ?_
      · simp only [fn_123_L26, e5]
        simp (disch := omega) only [ck_in, ix_nI, pk_mul, nI_add, pk_sub, iteI_le_t, iteI_le_f, iteI_lt_t, iteI_lt_f, iteI_eq_t, iteI_eq_f, bd_t, wr_t, ite_m1_f, ite_m1_t, ↓reduceIte, pZ.2 j hj]
        rw [if_neg (of_decide_eq_false hp)]
      · simp only [fn_123_L26, e5]
        simp (disch := omega) only [ck_in, ix_nI, pk_mul, nI_add, pk_sub, iteI_le_t, iteI_le_f, iteI_lt_t, iteI_lt_f, iteI_eq_t, iteI_eq_f, bd_t, wr_t, ite_m1_f, ite_m1_t, ↓reduceIte, pZ.2 j hj]
        rw [if_pos (of_decide_eq_true hp)]
      · simp only [fn_123_L26, e5]
        simp (disch := omega) only [ck_in, ix_nI, pk_mul, nI_add, pk_sub, iteI_le_t, iteI_le_f, iteI_lt_t, iteI_lt_f, iteI_eq_t, iteI_eq_f, bd_t, wr_t, ite_m1_f, ite_m1_t, ↓reduceIte]
  · have hT := (h.mw hq e).told (v := nI 0)
    unfold fn_243
    rw [wr_t, hT.any, bd_t, bI_0]
    cases ha : anyS P (gI Y.1 52 0) (-1 : Int32) with
    | false => rw [cnd_f, cnd_f]
    | true =>
      rw [cnd_t, cnd_t]
      refine lp_sres _ P.1 (by omega) (fun j hj hp => ?_) (fun j hj hp => ?_) ?_
      · simp only [fn_243_L16, hT.1.1]
        simp (disch := omega) only [ck_in, ix_nI, pk_mul, nI_add, pk_sub, iteI_le_t, iteI_le_f, iteI_lt_t, iteI_lt_f, iteI_eq_t, iteI_eq_f, bd_t, wr_t, ite_m1_f, ite_m1_t, ↓reduceIte, hT.wins hN.2.1 hj]
        rw [hT.1.1, pk_sub (by omega), if_neg (of_decide_eq_false hp)]
      · simp only [fn_243_L16, hT.1.1]
        simp (disch := omega) only [ck_in, ix_nI, pk_mul, nI_add, pk_sub, iteI_le_t, iteI_le_f, iteI_lt_t, iteI_lt_f, iteI_eq_t, iteI_eq_f, bd_t, wr_t, ite_m1_f, ite_m1_t, ↓reduceIte, hT.wins hN.2.1 hj]
        rw [hT.1.1, pk_sub (by omega), if_pos (of_decide_eq_true hp)]
      · simp only [fn_243_L16, hT.1.1]
        simp (disch := omega) only [ck_in, ix_nI, pk_mul, nI_add, pk_sub, iteI_le_t, iteI_le_f, iteI_lt_t, iteI_lt_f, iteI_eq_t, iteI_eq_f, bd_t, wr_t, ite_m1_f, ite_m1_t, ↓reduceIte]
theorem ok_22 {Y : Sm} {c : Nat} (h : RR Y c) : Sok fn_126 fn_245 Y c := by
  obtain ⟨P, tu, ro, u, pos, b, h⟩ := h
  have h3 := h.1.a8
  have hN := h.pn
  obtain ⟨Z, eZ, qZ, fZ, pZ⟩ := h.poll (-1 : Int32)
  refine s_q (v := sumN (hdS P (gI Y.1 52 0) (-1 : Int32)) P.2.2.2 P.2.1) h ⟨Z, ?_, qZ⟩ (fun W hq e => ⟨nI 0, sI W 48 0 0 (nI 0), ?_, QM.told, told_at⟩)
  · unfold fn_126
    rw [eZ, bd_t, pZ.1.2.1]
  · have hT := (h.mw hq e).told (v := nI 0)
    unfold fn_245
    rw [wr_t]
    refine lp_sum (hdS P (gI Y.1 52 0) (-1 : Int32)) P.2.2.2 P.2.1 (by omega) (fun j acc hj => ?_) (fun acc => ?_)
    · have ec := r_counts hT.1 hj
      rw [hT.2.1, hT.2.2] at ec
      simp only [fn_245_L9, hT.1.2.1]
      simp (disch := omega) only [ck_in, ix_nI, pk_mul, nI_add, pk_sub, iteI_le_t, iteI_le_f, iteI_lt_t, iteI_lt_f, iteI_eq_t, iteI_eq_f, bd_t, wr_t, ite_m1_f, ite_m1_t, ↓reduceIte, ec, bI_0, hT.1.2.2.2.2 j hj]
      cases hdS P (gI Y.1 52 0) (-1 : Int32) j <;> rfl
    · simp only [fn_245_L9, hT.1.2.1]
      simp (disch := omega) only [ck_in, ix_nI, pk_mul, nI_add, pk_sub, iteI_le_t, iteI_le_f, iteI_lt_t, iteI_lt_f, iteI_eq_t, iteI_eq_f, bd_t, wr_t, ite_m1_f, ite_m1_t, ↓reduceIte]
/-! the order that would be voted -/
theorem OutOK.uniq {P : Pm} {r f f' : Nat → Int32} {lo t : Int32} (h : OutOK P r lo t f) (h' : OutOK P r lo t f') {p : Nat} (hp : p < P.1) : f p = f' p := by
  cases ha : anyS P r lo with
  | true =>
    obtain ⟨row, hr⟩ := Rkd_ex (bet_sto P r lo t) P.1 (Nat.le_refl _)
    obtain ⟨c1, c2⟩ := hr p hp
    have x1 := h.1 ha (row p) c1
    have x2 := h'.1 ha (row p) c1
    unfold rkS at x1 x2
    rw [c2] at x1 x2
    rw [x1, x2]
  | false => rw [h.2 ha p hp, h'.2 ha p hp]
theorem c_v46 {Y : Sm} {c tu ro u pos : Nat} {P : Pm} {b : Bool} (h : R6 Y c P tu ro u pos b) (t lo : Int32) : ∃ Z, fn_159_0_46 t lo Y = some ((), Z) ∧ Fr (KS [39, 40, 41, 43, 45, 46]) Y Z ∧ OutOK P (gI Y.1 52 0) lo t (gI Z.1 46 0) := by
  have hN := h.pn
  obtain ⟨e0, t0, n, m, s, hR, hG, _⟩ := h.cl
  obtain ⟨A, eA, _, fA, pA⟩ := h.poll lo
  generalize hB : sF A 46 0 (va_cpy (gI A.1 22 0) (gI A.1 46 0) 0 0 5) = B
  have fB : Fr (KS [46]) A B := by rw [← hB]; exact Fr.sF (by unfold KS; decide)
  obtain ⟨Z, eZ, fZ, _, z1, z2⟩ := c_30_46 (Y := B) (t := t) (n := 0) rfl hN (pA.fr fB (by decide) (by decide) (by decide) (by decide) (by decide))
  refine ⟨Z, ?_, ((fA.up (KS.sub (by decide))).tr (fB.up (KS.sub (by decide)))).tr (fZ.up (KS.sub (by decide))), z1, fun ha p hp => ?_⟩
  · unfold fn_159_0_46 fn_44_22_46
    rw [eA, bd_t, wr_t, bd_t, sC_sF, hB, eZ, bd_t]
  · have h5 := h.1.a8
    rw [z2 ha, ← hB, gI_sFs, cp0 (by omega), fA.gI (by unfold KS; decide)]
    exact (hR.k p hp).1
theorem c_v47 {Y : Sm} {c tu ro u pos : Nat} {P : Pm} {b : Bool} (h : R6 Y c P tu ro u pos b) (t lo : Int32) : ∃ Z, fn_159_0_47 t lo Y = some ((), Z) ∧ Fr (KS [39, 40, 41, 43, 45, 47]) Y Z ∧ OutOK P (gI Y.1 52 0) lo t (gI Z.1 47 0) := by
  have hN := h.pn
  obtain ⟨e0, t0, n, m, s, hR, hG, _⟩ := h.cl
  obtain ⟨A, eA, _, fA, pA⟩ := h.poll lo
  generalize hB : sF A 47 0 (va_cpy (gI A.1 22 0) (gI A.1 47 0) 0 0 5) = B
  have fB : Fr (KS [47]) A B := by rw [← hB]; exact Fr.sF (by unfold KS; decide)
  obtain ⟨Z, eZ, fZ, _, z1, z2⟩ := c_30_47 (Y := B) (t := t) (n := 0) rfl hN (pA.fr fB (by decide) (by decide) (by decide) (by decide) (by decide))
  refine ⟨Z, ?_, ((fA.up (KS.sub (by decide))).tr (fB.up (KS.sub (by decide)))).tr (fZ.up (KS.sub (by decide))), z1, fun ha p hp => ?_⟩
  · unfold fn_159_0_47 fn_44_22_47
    rw [eA, bd_t, wr_t, bd_t, sC_sF, hB, eZ, bd_t]
  · have h5 := h.1.a8
    rw [z2 ha, ← hB, gI_sFs, cp0 (by omega), fA.gI (by unfold KS; decide)]
    exact (hR.k p hp).1
theorem ok_20 {Y : Sm} {c : Nat} (a p : Int32) (h : RR Y c) : Cok (fn_311 a p) (fn_244 a p) Y c := by
  obtain ⟨P, tu, ro, u, pos, b, h⟩ := h
  have h3 := h.1.a8
  have hN := h.pn
  cases hb : inb p P.1 with
  | false =>
    refine w_exc (F := fn_124 a p) (x := 0) (k := nI 1) h rfl (by decide) (fun _ => if_pos rfl) ⟨Y, ?_, QC.rf⟩ (fun W hq e => ⟨nI 0, sI W 48 0 0 (nI 1), ?_, QM.told, told_at⟩)
    · unfold fn_124
      rw [h.c155, hb, cnd_f, bx_r]
    · unfold fn_244
      rw [(h.mw hq e).cls, hb, bd_t, g_is, cnd_f]
  | true =>
    cases hc : inb a 3 with
    | false =>
      refine w_exc (F := fn_124 a p) (x := 1) (k := nI 2) h rfl (by decide) (fun _ => (if_neg (by decide)).trans (if_pos rfl)) ⟨Y, ?_, QC.rf⟩ (fun W hq e => ⟨nI 0, sI (sI W 48 0 0 (nI 0)) 48 0 0 (nI 2), ?_, QM.told.tr QM.told, told_at⟩)
      · unfold fn_124
        rw [h.c155, hb, cnd_t, bx_l, c_156, hc, cnd_f, bx_r]
      · unfold fn_244
        rw [(h.mw hq e).cls, hb, bd_t, g_is, cnd_t, r_isTally, hc, bd_t, g_may, cnd_f]
    | true =>
      obtain ⟨k, hk, rfl⟩ := inb_of hb (by omega)
      obtain ⟨Z, eZ, fZ, oZ⟩ := c_v46 h a (-1 : Int32)
      refine w_val (F := fn_124 a (nI k)) (v := gI Z.1 46 0 k) h rfl ⟨Z, ?_, QC.kf fZ (by decide)⟩ (fun W hq e => ?_)
      · unfold fn_124
        rw [h.c155, hb, cnd_t, bx_l, c_156, hc, cnd_t, bx_l, eZ, bd_t, ck_in (by omega) (by omega), ix_nI (by omega)]
      · obtain ⟨f, ef, of⟩ := (h.mw hq e).told (v := nI 0) |>.told (v := nI 0) |>.tal hN.2.1 a
        refine ⟨sF (sI (sI W 48 0 0 (nI 0)) 48 0 0 (nI 0)) 58 0 f, ?_, (QM.told.tr QM.told).tr (QM.sF (Or.inr (Or.inr (Or.inl rfl)))), by rw [gI_sFk (by omega)]; exact told_at⟩
        · unfold fn_244
          rw [(h.mw hq e).cls, hb, bd_t, g_is, cnd_t, r_isTally, hc, bd_t, g_may, cnd_t, ef, bd_t, ck_in (by omega) (by omega), ix_nI (by omega), gI_sFs, oZ.uniq of hk]
