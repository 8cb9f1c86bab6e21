/-! the statements of the built text are read -/
def DI (X : Sm) (d C A : Nat) (f c v : Nat → Nat) (tl : Nat) (st : Nat → Nat) (mk : Nat) : Prop := X.2 2 = d ∧ (gI X.1 3 0 3 = nI 0 ∧ gI X.1 3 0 2 = nI mk) ∧ (gI X.1 5 d 0 = nI C ∧ gI X.1 5 d 3 = nI A ∧ gI X.1 5 d 7 = nI tl) ∧ (∀ k, k < C → gJ X.1 6 d k = nL (97 + k) ∧ gI X.1 7 d k = nI (f k)) ∧ (∀ a, a < A → gJ X.1 8 d a = nL (109 + a) ∧ gI X.1 9 d a = nI (c a) ∧ gI X.1 10 d a = nI (v a)) ∧ (∀ j, j < 5 → gI X.1 11 d j = nI (st j)) ∧ (gI X.1 12 d 1 = nI 0 ∧ gI X.1 12 d 2 = (-1 : Int32))
section RD
variable {X : Sm} {L s d C A tl mk : Nat} {B : Nat → Nat} {f c v st : Nat → Nat}
theorem K4 {Z : Sm} (hF : Fr (KS [4]) X Z) {k i : Nat} (hk : k ≠ 4) : gI Z.1 k i = gI X.1 k i ∧ gJ Z.1 k i = gJ X.1 k i := hF.2 k i (fun q => by
  unfold KS at q
  simp only [List.mem_cons, List.mem_nil_iff, or_false] at q
  exact hk q)
theorem DI.k4 {Z : Sm} (h : DI X d C A f c v tl st mk) (hF : Fr (KS [4]) X Z) : DI Z d C A f c v tl st mk := by
  unfold DI at h ⊢
  rw [hF.1, (K4 hF (k := 3) (i := 0) (by omega)).1, (K4 hF (k := 5) (i := d) (by omega)).1, (K4 hF (k := 6) (i := d) (by omega)).2, (K4 hF (k := 7) (i := d) (by omega)).1, (K4 hF (k := 8) (i := d) (by omega)).2, (K4 hF (k := 9) (i := d) (by omega)).1, (K4 hF (k := 10) (i := d) (by omega)).1, (K4 hF (k := 11) (i := d) (by omega)).1, (K4 hF (k := 12) (i := d) (by omega)).1]
  exact h
theorem c_61s (h : TkC X L B s) (hk : kdS L B s = 3) : ∃ Z, fn_61 X = some (nI 1, Z) ∧ Fr (KS [4]) X Z ∧ TkC Z L B (nxt L B s) := by
  obtain ⟨Z, e, hF, t⟩ := c_next h
  refine ⟨Z, ?_, hF, t⟩
  unfold fn_61
  rw [h.2.2.1, hk, if_pos rfl, e, bd_t]
theorem c_69s {lo hi : Nat} (h : TkC X L B s) (hn : nub L B s = true) (h1 : lo ≤ nuV L B s) (h2 : nuV L B s ≤ hi) (h3 : hi ≤ 999) : ∃ Z, fn_69 (nI lo) (nI hi) X = some (nI (nuV L B s), Z) ∧ Fr (KS [4]) X Z ∧ TkC Z L B (nxt L B s) := by
  obtain ⟨Z, e, hF, t⟩ := c_next h
  refine ⟨Z, ?_, hF, t⟩
  unfold fn_69
  rw [c_nu h, hn, bd_t, bI_0, cnd_t, c_va h hn, bd_t, iteI_lt_f h1 (by omega), iteI_le_t h2 (by omega), e, bd_t]
theorem c_64s (h : TkC X L B s) : ∃ Z, fn_64 X = some (nI (st3 L B s), Z) ∧ Fr (KS [4]) X Z ∧ TkC Z L B (if st3 L B s = 0 then s else nxt L B s) := by
  rw [c_64 h]
  by_cases c0 : st3 L B s = 0
  · rw [if_pos c0, if_pos c0, c0]
    exact ⟨X, rfl, Fr.rf, h⟩
  · obtain ⟨Z, e, hF, t⟩ := c_next h
    rw [if_neg c0, if_neg c0, e, bd_t]
    exact ⟨Z, rfl, hF, t⟩
theorem wb_no {j i : Nat} (hj : j < 17) (hi : i < 17) (h : wb L B s j = true) (hne : i ≠ j) : wb L B s i = false := by
  cases q : wb L B s i with
  | false => rfl
  | true => exact absurd (wb_in hi hj q h) hne
/-- a class -/
theorem r_cls {s1 s2 : Nat} (h : TkC X L B s) (hD : DI X d C A f c v tl st mk) (hC : C < 5) (w0 : wb L B s 0 = true) (e1 : nxt L B s = s1) (nm : nmb L B s1 = true ∧ nmC L B s1 = nL (97 + C)) (e2 : nxt L B s1 = s2) : ∃ Z, fn_62 X = some (nI 1, Z) ∧ Fr (SD d) X Z ∧ TkC Z L B (if st3 L B s2 = 0 then s2 else nxt L B s2) ∧ DI Z d (C + 1) A (upn f C (st3 L B s2)) c v tl st mk := by
  obtain ⟨Z1, g1, F1, t1⟩ := c_next h
  rw [e1] at t1
  have D1 := hD.k4 F1
  obtain ⟨Z2, g2, F2, t2⟩ := c_next t1
  rw [e2] at t2
  obtain ⟨Z3, g3, F3, t3⟩ := c_64s t2
  have D3 := (D1.k4 F2).k4 F3
  have e56 := c_56 (Y := Z1) (d := d) (n := C) (nL (97 + C)) D1.2.2.1.1 (by omega)
  rw [srs_no (fun k hk => by
    rw [(D1.2.2.2.1 k hk).1]
    exact decide_eq_false (fun q => by have := (nL_eq (by omega) (by omega)).mp q; omega))] at e56
  have hs3 := st3_le L B s2
  generalize hm : st3 L B s2 = m at *
  generalize hZ : sI (sI (sJ Z3 6 d C (nL (97 + C))) 7 d C (nI m)) 5 d 0 (nI (C + 1)) = Z
  have e54 : fn_54 d (nL (97 + C)) (nI m) Z3 = some ((), Z) := by
    have e5 : gI Z3.1 5 d 0 = nI C := D3.2.2.1.1
    unfold fn_54
    simp (disch := omega) only [gI_sJ, gI_sIk, e5, ck_in, ix_nI, wr_t, nI_add, iteI_le_f]
    rw [hZ]
  have z2 : Z3.2 2 = d := D3.1
  have z12 : Z1.2 2 = d := D1.1
  have z22 : Z2.2 2 = d := (D1.k4 F2).1
  have gk : ∀ k i, k ≠ 5 → k ≠ 7 → gI Z.1 k i = gI Z3.1 k i := fun k i h1 h2 => by
    rw [← hZ, gI_sIk h1, gI_sIk h2]
    rfl
  have gj : ∀ k i, k ≠ 6 → gJ Z.1 k i = gJ Z3.1 k i := fun k i h1 => by
    funext q
    rw [← hZ]
    show gJ (sJ Z3 6 d C (nL (97 + C))).1 k i q = _
    rw [gJ_sJ, if_neg (fun z => h1 z.1)]
  refine ⟨Z, ?_, ?_, ?_, ?_⟩
  · unfold fn_62
    rw [c_is h (by omega), w0, bd_t, bI_0, cnd_t]
    unfold fn_63
    rw [hD.1, hD.2.2.1.1, iteI_lt_t hC (by omega), g1, bd_t, c_nm t1, nm.1, bd_t, bI_0, cnd_t, c_nv t1 nm.1, nm.2, bd_t, z12, e56, bd_t, if_pos rfl, g2, bd_t, g3, bd_t, z22, e54, bd_t, bd_t]
    rfl
  · refine ((F1.tr (F2.tr F3)).d4).tr ?_
    rw [← hZ]
    exact ((Fr.sJ (SDm (by decide))).tr (Fr.sI (SDm (by decide)))).tr (Fr.sI (SDm (by decide)))
  · exact t3.cg (gk 1 0 (by omega) (by omega)) (gk 2 0 (by omega) (by omega)) (gk 4 0 (by omega) (by omega))
  · obtain ⟨a1, a2, a3, a4, a5, a6, a7⟩ := D3
    refine ⟨?_, by rw [gk 3 0 (by omega) (by omega)]; exact a2, ?_, fun k hk => ?_, fun a ha => ?_, fun j hj => by rw [gk 11 d (by omega) (by omega)]; exact a6 j hj, by rw [gk 12 d (by omega) (by omega)]; exact a7⟩
    · rw [← hZ]; exact a1
    · rw [← hZ, gI_sIv, upd_at, upd_ne (by omega), upd_ne (by omega), gI_sIk (by omega)]
      exact ⟨rfl, a3.2⟩
    · have e7 : gI Z.1 7 d = upd (gI Z3.1 7 d) C (nI m) := by
        rw [← hZ, gI_sIk (by omega), gI_sIv]
        rfl
      have e6 : ∀ q, gJ Z.1 6 d q = if q = C then nL (97 + C) else gJ Z3.1 6 d q := fun q => by
        rw [← hZ]
        show gJ (sJ Z3 6 d C (nL (97 + C))).1 6 d q = _
        rw [gJ_sJ]
        by_cases cc : q = C
        · rw [if_pos ⟨rfl, rfl, cc⟩, if_pos cc]
        · rw [if_neg (fun z => cc z.2.2), if_neg cc]
      rw [e7, e6 k]
      by_cases cc : k = C
      · subst cc
        rw [if_pos rfl, upd_at, upn_at]
        exact ⟨rfl, rfl⟩
      · rw [if_neg cc, upd_ne cc, upn_ne cc]
        exact a4 k (by omega)
    · rw [gj 8 d (by omega), gk 9 d (by omega) (by omega), gk 10 d (by omega) (by omega)]
      exact a5 a ha
/-- an asker -/
theorem r_ask {s1 s2 s3 s4 s5 : Nat} (h : TkC X L B s) (hD : DI X d C A f c v tl st mk) (hA : A < 8) (w0 : wb L B s 4 = true) (e1 : nxt L B s = s1) (nm : nmb L B s1 = true ∧ nmC L B s1 = nL (109 + A)) (e2 : nxt L B s1 = s2) (w5 : wb L B s2 5 = true) (e3 : nxt L B s2 = s3) (n3 : nub L B s3 = true) (e4 : nxt L B s3 = s4) (w6 : wb L B s4 6 = true) (e5 : nxt L B s4 = s5) (n5 : nub L B s5 = true) (b5 : 1 ≤ nuV L B s5 ∧ nuV L B s5 ≤ 9) : ∃ Z, fn_62 X = some (nI 1, Z) ∧ Fr (SD d) X Z ∧ TkC Z L B (nxt L B s5) ∧ DI Z d C (A + 1) f (upn c A (nuV L B s3)) (upn v A (nuV L B s5)) tl st mk := by
  obtain ⟨Z1, g1, F1, t1⟩ := c_next h
  rw [e1] at t1
  have D1 := hD.k4 F1
  obtain ⟨Z2, g2, F2, t2⟩ := c_next t1
  rw [e2] at t2
  obtain ⟨Z3, g3, F3, t3⟩ := c_next t2
  rw [e3] at t3
  have hv3 := nuV_lt n3
  obtain ⟨Z4, g4, F4, t4⟩ := c_69s (lo := 0) (hi := 999) t3 n3 (Nat.zero_le _) (by omega) (by omega)
  rw [e4] at t4
  have D4 := ((D1.k4 F2).k4 F3).k4 F4
  obtain ⟨Z5, g5, F5, t5⟩ := c_next t4
  rw [e5] at t5
  obtain ⟨Z6, g6, F6, t6⟩ := c_69s (lo := 1) (hi := 9) t5 n5 b5.1 b5.2 (by omega)
  have D6 := (D4.k4 F5).k4 F6
  have e57 := c_57 (Y := Z1) (d := d) (n := A) (nL (109 + A)) D1.2.2.1.2.1 (by omega)
  rw [srs_no (fun k hk => by
    rw [(D1.2.2.2.2.1 k hk).1]
    exact decide_eq_false (fun q => by have := (nL_eq (by omega) (by omega)).mp q; omega))] at e57
  generalize hx : nuV L B s3 = x at *
  generalize hy : nuV L B s5 = y at *
  generalize hZ : sI (sI (sI (sJ Z6 8 d A (nL (109 + A))) 9 d A (nI x)) 10 d A (nI y)) 5 d 3 (nI (A + 1)) = Z
  have e55 : fn_55 d (nL (109 + A)) (nI x) (nI y) Z6 = some ((), Z) := by
    have e5 : gI Z6.1 5 d 3 = nI A := D6.2.2.1.2.1
    unfold fn_55
    simp (disch := omega) only [gI_sJ, gI_sIk, e5, ck_in, ix_nI, wr_t, nI_add, iteI_le_f]
    rw [hZ]
  have z12 : Z1.2 2 = d := D1.1
  have z62 : Z6.2 2 = d := D6.1
  have gk : ∀ k i, k ≠ 5 → k ≠ 9 → k ≠ 10 → gI Z.1 k i = gI Z6.1 k i := fun k i h1 h2 h3 => by
    rw [← hZ, gI_sIk h1, gI_sIk h3, gI_sIk h2]
    rfl
  have gj : ∀ k i, k ≠ 8 → gJ Z.1 k i = gJ Z6.1 k i := fun k i h1 => by
    funext q
    rw [← hZ]
    show gJ (sJ Z6 8 d A (nL (109 + A))).1 k i q = _
    rw [gJ_sJ, if_neg (fun z => h1 z.1)]
  have z3 : gI Z.1 3 0 3 = nI 0 := by rw [gk 3 0 (by omega) (by omega) (by omega)]; exact D6.2.1.1
  refine ⟨Z, ?_, ?_, ?_, ?_⟩
  · unfold fn_62
    rw [c_is h (by omega), wb_no (by omega) (by omega) w0 (by omega), bd_t, bI_0, cnd_f]
    rw [c_is h (by omega), w0, bd_t, bI_0, cnd_t]
    unfold fn_65
    rw [hD.1, hD.2.2.1.2.1, iteI_lt_t hA (by omega), g1, bd_t, c_nm t1, nm.1, bd_t, bI_0, cnd_t, c_nv t1 nm.1, nm.2, bd_t, z12, e57, bd_t, if_pos rfl, g2, bd_t, c_is t2 (by omega), w5, bd_t, bI_0, cnd_t, g3, bd_t, g4, bd_t, D4.2.1.1, if_pos rfl, c_is t4 (by omega), w6, bd_t, bI_0, cnd_t, g5, bd_t, g6, bd_t]
    unfold fn_65_J146
    rw [z62, e55, bd_t, z3, if_pos rfl, bd_t]
    rfl
  · refine ((F1.tr (F2.tr (F3.tr (F4.tr (F5.tr F6))))).d4).tr ?_
    rw [← hZ]
    exact (((Fr.sJ (SDm (by decide))).tr (Fr.sI (SDm (by decide)))).tr (Fr.sI (SDm (by decide)))).tr (Fr.sI (SDm (by decide)))
  · exact t6.cg (gk 1 0 (by omega) (by omega) (by omega)) (gk 2 0 (by omega) (by omega) (by omega)) (gk 4 0 (by omega) (by omega) (by omega))
  · obtain ⟨a1, a2, a3, a4, a5, a6, a7⟩ := D6
    refine ⟨?_, by rw [gk 3 0 (by omega) (by omega) (by omega)]; exact a2, ?_, fun k hk => ?_, fun a ha => ?_, fun j hj => by rw [gk 11 d (by omega) (by omega) (by omega)]; exact a6 j hj, by rw [gk 12 d (by omega) (by omega) (by omega)]; exact a7⟩
    · rw [← hZ]; exact a1
    · rw [← hZ, gI_sIv, upd_at, upd_ne (by omega), upd_ne (by omega), gI_sIk (by omega), gI_sIk (by omega)]
      exact ⟨a3.1, rfl, a3.2.2⟩
    · rw [gj 6 d (by omega), gk 7 d (by omega) (by omega) (by omega)]
      exact a4 k hk
    · have e9 : gI Z.1 9 d = upd (gI Z6.1 9 d) A (nI x) := by
        rw [← hZ, gI_sIk (by omega), gI_sIk (by omega), gI_sIv]
        rfl
      have e10 : gI Z.1 10 d = upd (gI Z6.1 10 d) A (nI y) := by
        rw [← hZ, gI_sIk (by omega), gI_sIv, gI_sIk (by omega)]
        rfl
      have e8 : ∀ q, gJ Z.1 8 d q = if q = A then nL (109 + A) else gJ Z6.1 8 d q := fun q => by
        rw [← hZ]
        show gJ (sJ Z6 8 d A (nL (109 + A))).1 8 d q = _
        rw [gJ_sJ]
        by_cases cc : q = A
        · rw [if_pos ⟨rfl, rfl, cc⟩, if_pos cc]
        · rw [if_neg (fun z => cc z.2.2), if_neg cc]
      rw [e9, e10, e8 a]
      by_cases cc : a = A
      · subst cc
        rw [if_pos rfl, upd_at, upd_at, upn_at, upn_at]
        exact ⟨rfl, rfl, rfl⟩
      · rw [if_neg cc, upd_ne cc, upd_ne cc, upn_ne cc, upn_ne cc]
        exact a5 a (by omega)
end RD
