/-! meanWait, share -/
def Cokd (f : Sm → Option (Int32 × Sm)) (g : Sm → Option (UInt64 × Sm)) (Y : Sm) (c : Nat) : Prop := ∃ k Z1 v Z2, f Y = some (k, Z1) ∧ g Z1 = some (v, Z2) ∧ gI Z1.1 68 = gI Y.1 68 ∧ gI Z2.1 68 = gI Y.1 68 ∧ gI Z2.1 48 0 0 = k ∧ (k = nI 0 → gD Z2.1 67 0 0 = v ∧ Op.cmpValue (FP.dcmp v v) .l = nI 0) ∧ RR Z2 (c + 1)
def Cokf (f : Sm → Option (Int32 × Sm)) (g : Sm → Option (UInt32 × Sm)) (Y : Sm) (c : Nat) : Prop := ∃ k Z1 v Z2, f Y = some (k, Z1) ∧ g Z1 = some (v, Z2) ∧ gI Z1.1 68 = gI Y.1 68 ∧ gI Z2.1 68 = gI Y.1 68 ∧ gI Z2.1 48 0 0 = k ∧ (k = nI 0 → gD Z2.1 67 0 0 = FP.f2d v ∧ nn64 (FP.f2d v) = true ∧ Op.cmpValue (FP.dcmp (FP.f2d v) (FP.f2d v)) .l = nI 0) ∧ RR Z2 (c + 1)
theorem QF.d67 {Y : Sm} {v : UInt64} : QF Y (sD Y 67 0 0 v) := ⟨fun _ _ => rfl, fun k i hk => ⟨rfl, rfl⟩, fun _ _ => rfl, fun _ _ => rfl⟩
theorem nn64_ok {v : UInt64} (h : Jvm.Free.Fl.NoNaN64 v) : nn64 v = true := decide_eq_true h
theorem nn32_ok {v : UInt32} (h : Jvm.Free.Fl.NoNaN32 v) : nn32 v = true := decide_eq_true h
theorem gD_sD (Y : Sm) (v : UInt64) : gD (sD Y 67 0 0 v).1 67 0 0 = v := by
  have : gD (sD Y 67 0 0 v).1 67 0 0 = if 67 = 67 ∧ 0 = 0 ∧ 0 = 0 then v else gD Y.1 67 0 0 := rfl
  rw [this, if_pos ⟨rfl, rfl, rfl⟩]
theorem ok_26 {Y : Sm} {c : Nat} (a : Int32) (h : RR Y c) : Cokd (fn_316 a) (fn_254 a) Y c := by
  obtain ⟨P, tu, ro, u, pos, b, h⟩ := h
  have h3 := h.1.a8
  obtain ⟨e0, t, n, m, s, hR, hG, ht, hs, hN⟩ := h.cl
  cases hb : inb a P.1 with
  | false =>
    have e1 : fn_316 a Y = some (nI 1, Y) := by
      unfold fn_316 fn_130
      rw [h.c155, hb, cnd_f, bx_r, bx_r, if_pos rfl]
    have e2 : fn_254 a Y = some (FP.dconst0, sI Y 48 0 0 (nI 1)) := by
      unfold fn_254
      rw [(h.mw QF.rf rfl).cls, hb, bd_t, g_is, cnd_f]
    exact ⟨nI 1, Y, _, _, e1, e2, rfl, by rw [gI_sIk (by omega)], told_at, fun q => absurd q (by decide), P, tu, ro, u, pos, b, (h.q QM.told.f).up (by omega)⟩
  | true =>
    obtain ⟨k, hk, rfl⟩ := inb_of hb (by omega)
    obtain ⟨_, _, q24, q25⟩ := hR.k k hk
    have key : ∃ v, Jvm.Free.Fl.NoNaN64 v ∧ fn_130 (nI k) Y = some (.inl v, Y) ∧ ∀ W, QF Y W → gI W.1 52 = gI Y.1 52 → fn_254 (nI k) W = some (v, sI W 48 0 0 (nI 0)) := by
      by_cases z : gI Y.1 52 0 (68 + k) = nI 0
      · refine ⟨FP.dconst0, by unfold Jvm.Free.Fl.NoNaN64; decide +kernel, ?_, fun W hq e => ?_⟩
        · unfold fn_130
          rw [h.c155, hb, cnd_t, bx_l, ck_in (by omega) (by omega), ix_nI (by omega), q24, if_pos z]
        · unfold fn_254
          rw [(h.mw hq e).cls, hb, bd_t, g_is, cnd_t, nI_add, nI_add, ck_in (by omega) (by omega), ix_nI (by omega), gI_sIk (by omega), e, if_pos z]
      · have nn : Jvm.Free.Fl.NoNaN64 (FP.ddiv (FP.i2d (gI Y.1 52 0 (73 + k))) (FP.i2d (gI Y.1 52 0 (68 + k)))) := Jvm.Free.Fl.ddiv_out (Jvm.Free.Fl.i2d_fin _).noNaN (Jvm.Free.Fl.i2d_fin _) (Jvm.Free.Fl.i2d_nz z)
        refine ⟨FP.ddiv (FP.i2d (gI Y.1 52 0 (73 + k))) (FP.i2d (gI Y.1 52 0 (68 + k))), nn, ?_, fun W hq e => ?_⟩
        · unfold fn_130
          rw [h.c155, hb, cnd_t, bx_l, ck_in (by omega) (by omega), ix_nI (by omega), q24, if_neg z, q25, ← Jvm.RoadKit.i2d_w, ck_t (nn64_ok nn)]
        · unfold fn_254
          rw [(h.mw hq e).cls, hb, bd_t, g_is, cnd_t, nI_add, nI_add, ck_in (by omega) (by omega), ix_nI (by omega), ix_nI (by omega), gI_sIk (by omega), e, if_neg z, ck_in (by omega) (by omega), ck_t (nn64_ok nn)]
    obtain ⟨v, nn, e1, e2⟩ := key
    have hq : QF Y (sD Y 67 0 0 v) := QF.d67
    refine ⟨nI 0, sD Y 67 0 0 v, v, _, ?_, e2 _ hq rfl, rfl, by rw [gI_sIk (by omega)]; rfl, told_at, fun _ => ⟨?_, Jvm.RoadKit.dcmpV_self nn .l⟩, P, tu, ro, u, pos, b, ((h.q hq).q QM.told.f).up (by omega)⟩
    · unfold fn_316
      rw [e1, bx_l, wr_t]
    · exact gD_sD Y v
def suI (r : Nat → Int32) : Nat → Int32
  | 0 => nI 0
  | j + 1 => suI r j + r (60 + j)
theorem ok_27 {Y : Sm} {c : Nat} (a : Int32) (h : RR Y c) : Cokf (fn_317 a) (fn_255 a) Y c := by
  obtain ⟨P, tu, ro, u, pos, b, h⟩ := h
  have h3 := h.1.a8
  obtain ⟨e0, t, n, m, s, hR, hG, ht, hs, hN⟩ := h.cl
  cases hb : inb a P.2.1 with
  | false =>
    have e1 : fn_317 a Y = some (nI 1, Y) := by
      unfold fn_317 fn_131
      rw [h.c154, hb, cnd_f, bx_r, bx_r, if_pos rfl]
    have e2 : fn_255 a Y = some (FP.fconst0, sI Y 48 0 0 (nI 1)) := by
      unfold fn_255
      rw [(h.mw QF.rf rfl).ask, hb, bd_t, g_is, cnd_f]
    exact ⟨nI 1, Y, _, _, e1, e2, rfl, by rw [gI_sIk (by omega)], told_at, fun q => absurd q (by decide), P, tu, ro, u, pos, b, (h.q QM.told.f).up (by omega)⟩
  | true =>
    obtain ⟨k, hk, rfl⟩ := inb_of hb (by omega)
    have q33 : ∀ j, j < P.2.1 → gI Y.1 33 0 j = gI Y.1 52 0 (60 + j) := fun j hj => (hR.u j hj).2.2.2.2.2
    have l1 : lp (fun s => fn_131_L9_1 (nI k) s.1 s.2.1 s.2.2) FU (nI 0, nI 0, Y) = some (.inl (suI (gI Y.1 52 0) P.2.1, Y)) := by
      refine lp_run (fun j => (suI (gI Y.1 52 0) j, nI j, Y)) P.2.1 (FU_lt (by omega)) (fun j hj => ?_) ?_ rfl
      · simp only [fn_131_L9_1]
        rw [h.cp.1.2, iteI_le_f hj (by omega), ck_in (by omega) (by omega), ix_nI (by omega), q33 j hj, nI_add]
        rfl
      · simp only [fn_131_L9_1]
        rw [h.cp.1.2, iteI_le_t (Nat.le_refl _) (by omega)]
    have l2 : ∀ W, QF Y W → gI W.1 52 = gI Y.1 52 → lp (fun s => fn_255_L18 (nI k) s.1 s.2.1 s.2.2) FU (nI 0, nI 0, sI W 48 0 0 (nI 0)) = some (.inl (suI (gI Y.1 52 0) P.2.1, sI W 48 0 0 (nI 0))) := fun W hq e => by
      have e2 : gI (sI W 48 0 0 (nI 0)).1 48 0 2 = nI P.2.1 := by rw [gI_sIv, upd_ne (by omega), hq.2.2.1 2 (by omega)]; exact h.1.1.2.1
      refine lp_run (fun j => (suI (gI Y.1 52 0) j, nI j, sI W 48 0 0 (nI 0))) P.2.1 (FU_lt (by omega)) (fun j hj => ?_) ?_ rfl
      · simp only [fn_255_L18]
        rw [e2, iteI_le_f hj (by omega), nI_add, nI_add, ck_in (by omega) (by omega), ix_nI (by omega), gI_sIk (by omega), e]
        rfl
      · simp only [fn_255_L18]
        rw [e2, iteI_le_t (Nat.le_refl _) (by omega)]
    have key : ∃ v, Jvm.Free.Fl.NoNaN32 v ∧ fn_131 (nI k) Y = some (.inl v, Y) ∧ ∀ W, QF Y W → gI W.1 52 = gI Y.1 52 → fn_255 (nI k) W = some (v, sI W 48 0 0 (nI 0)) := by
      by_cases z : suI (gI Y.1 52 0) P.2.1 = nI 0
      · refine ⟨FP.fconst0, by unfold Jvm.Free.Fl.NoNaN32; decide +kernel, ?_, fun W hq e => ?_⟩
        · unfold fn_131
          rw [h.c154, hb, cnd_t, bx_l, l1, exd_l]
          unfold fn_131_J41_1
          rw [if_pos z]
        · unfold fn_255
          rw [(h.mw hq e).ask, hb, bd_t, g_is, cnd_t, l2 W hq e, exd_l]
          unfold fn_255_J44
          rw [if_pos z]
      · have nn : Jvm.Free.Fl.NoNaN32 (FP.fdiv (FP.i2f (gI Y.1 52 0 (60 + k))) (FP.i2f (suI (gI Y.1 52 0) P.2.1))) := Jvm.Free.Fl.fdiv_out (Jvm.Free.Fl.i2f_fin _).noNaN (Jvm.Free.Fl.i2f_fin _) (Jvm.Free.Fl.i2f_nz z)
        refine ⟨FP.fdiv (FP.i2f (gI Y.1 52 0 (60 + k))) (FP.i2f (suI (gI Y.1 52 0) P.2.1)), nn, ?_, fun W hq e => ?_⟩
        · unfold fn_131
          rw [h.c154, hb, cnd_t, bx_l, l1, exd_l]
          unfold fn_131_J41_1
          rw [if_neg z, ck_in (by omega) (by omega), ix_nI (by omega), q33 k hk, ck_t (nn32_ok nn)]
        · unfold fn_255
          rw [(h.mw hq e).ask, hb, bd_t, g_is, cnd_t, l2 W hq e, exd_l]
          unfold fn_255_J44
          rw [if_neg z, nI_add, ck_in (by omega) (by omega), ix_nI (by omega), gI_sIk (by omega), e, ck_t (nn32_ok nn)]
    obtain ⟨v, nn, e1, e2⟩ := key
    have nd := Jvm.Free.Fl.f2d_out nn
    have hq : QF Y (sD Y 67 0 0 (FP.f2d v)) := QF.d67
    refine ⟨nI 0, sD Y 67 0 0 (FP.f2d v), v, _, ?_, e2 _ hq rfl, rfl, by rw [gI_sIk (by omega)]; rfl, told_at, fun _ => ⟨?_, nn64_ok nd, Jvm.RoadKit.dcmpV_self nd .l⟩, P, tu, ro, u, pos, b, ((h.q hq).q QM.told.f).up (by omega)⟩
    · unfold fn_317
      rw [e1, bx_l, ck_t (nn64_ok nd), wr_t]
    · exact gD_sD Y (FP.f2d v)
