theorem ok_2 {Y : Sm} {c : Nat} (h : RR Y c) : Sok fn_106 fn_292 Y c := by
  obtain ⟨P, tu, ro, u, pos, b, h⟩ := h
  obtain ⟨hII, hE, hO⟩ := h.2.2.2.2.1
  obtain ⟨L, B, hL, i1, i2, i3⟩ := hII.tx
  have hT : Tx Y L B := ⟨hL, i1, fun j hj => ⟨(i3 j hj).1, (i3 j hj).2.1⟩⟩
  obtain ⟨s1, s2, s3⟩ := h.1.2.2.2.2.1
  obtain ⟨d, hd⟩ : ∃ d, Y.2 1 = d := ⟨_, rfl⟩
  have s3 : d < 3 := by rw [← hd]; exact s3
  have s1 : Y.2 0 ≠ d := by rw [← hd]; exact s1
  obtain ⟨v, Z, V0, e59, _, fZ, _, _, o0⟩ := p_both (W := Y) (d := d) hT i2 (fun j hj => ⟨(i3 j hj).1, (i3 j hj).2.2⟩)
  have z2 : ∀ a, a ≠ 2 → Z.2 a = Y.2 a := fun a ha => by rw [fZ.1, g_sG, ug_ne ha]
  have zk : ∀ k i, ¬ SD d k i → gI Z.1 k i = gI Y.1 k i ∧ gJ Z.1 k i = gJ Y.1 k i := fun k i hk => ⟨(fZ.2 k i hk).1.trans (by rw [gI_sG]), (fZ.2 k i hk).2.trans (by rw [gJ_sG])⟩
  generalize hY6 : sI (sI (sI Z 1 0 1 (nI 0)) 0 0 4 (gI Z.1 3 0 3)) 0 0 5 (gI Z.1 3 0 4) = Y6
  have y6o : ∀ k i, k ≠ 0 → k ≠ 1 → gI Y6.1 k i = gI Z.1 k i ∧ gJ Y6.1 k i = gJ Z.1 k i := fun k i h0 h1 => by
    rw [← hY6, gI_sIk h0, gI_sIk h0, gI_sIk h1]
    exact ⟨rfl, rfl⟩
  have y60 : ∀ x, x ≠ 4 → x ≠ 5 → gI Y6.1 0 0 x = gI Y.1 0 0 x := fun x h4 h5 => by
    rw [← hY6, gI_sIv, upd_ne h5, gI_sIv, upd_ne h4, gI_sIk (by omega), (zk 0 0 (fun q => by
      unfold SD at q
      simp only [List.mem_cons, List.mem_nil_iff, or_false] at q
      omega)).1]
  have y64 : gI Y6.1 0 0 4 = gI Z.1 3 0 3 ∧ gI Y6.1 0 0 5 = gI Z.1 3 0 4 := by
    rw [← hY6, gI_sIv, upd_ne (by omega), gI_sIv, upd_at, upd_at]
    exact ⟨rfl, rfl⟩
  have y61 : gI Y6.1 1 0 1 = nI 0 := by rw [← hY6, gI_sIk (by omega), gI_sIk (by omega), gI_sIv, upd_at]
  have y62 : Y6.2 = Z.2 := by rw [← hY6]; rfl
  have yM : ∀ k i, 48 ≤ k → gI Y6.1 k i = gI Y.1 k i ∧ gJ Y6.1 k i = gJ Y.1 k i := fun k i hk => by
    have a := y6o k i (by omega) (by omega)
    have b := zk k i (fun q => by
      unfold SD at q
      simp only [List.mem_cons, List.mem_nil_iff, or_false] at q
      omega)
    exact ⟨a.1.trans b.1, a.2.trans b.2⟩
  have e106 : fn_106 Y = (if v = (nI 0) then some ((-1 : Int32), Y6) else wr (sG Y6 0 (Y6.2 1)) fun Y7 => wr (sG Y7 1 (Y6.2 0)) fun Y8 => bd (fn_71 0 (Y8.2 0) Y8) fun _ Y9 => wr (sI Y9 37 0 2 (nI 0)) fun Y11 => wr (sI Y11 0 0 11 (nI 0)) fun Y12 => some ((gI Y12.1 5 (Y12.2 0) 0), Y12)) := by
    unfold fn_106
    rw [hd, e59, bd_t, wr_t, gI_sIk (by omega), wr_t, gI_sIk (by omega), gI_sIk (by omega), wr_t, hY6]
  have runM : ∀ W, (∀ k i, 48 ≤ k → gI W.1 k i = gI Y.1 k i ∧ gJ W.1 k i = gJ Y.1 k i) → ∃ Z2, fn_292 W = (if v = nI 1 then (bd (fn_269 Z2) fun _ Y27 => some ((gI Y27.1 48 0 1), Y27)) else some ((-1 : Int32), Z2)) ∧ FrI W Z2 ∧ gI Z2.1 48 0 23 = nI 0 ∧ ((v = nI 1 ∧ ∃ s' C A n, 0 < C ∧ 0 < A ∧ RdR d L B s' C A n Z Z2) ∨ (v = nI 0 ∧ ErB Z Z2)) := fun W hW => by
    obtain ⟨v', Z', Z2, q1, q2, q3, q4, q5, q6⟩ := p_both (W := W) (d := d) hT (by rw [(hW 48 0 (by omega)).1]; exact i2) (fun j hj => ⟨(i3 j hj).1, by rw [(hW 60 0 (by omega)).1]; exact (i3 j hj).2.2⟩)
    have e := Option.some.inj (q1.symm.trans e59)
    obtain ⟨rfl, rfl⟩ := Prod.mk.inj e
    exact ⟨Z2, q2, q4, q5, q6⟩
  rcases o0 with ⟨hv, _, C0, A0, n0, hC0, hA0, r0⟩ | ⟨hv, _⟩
  · subst hv
    -- the class begins
    have e2d : Y6.2 1 = d := by rw [y62, z2 1 (by omega), hd]
    have e20 : Y6.2 0 = Y.2 0 := by rw [y62, z2 0 (by omega)]
    generalize hY8 : sG (sG Y6 0 d) 1 (Y.2 0) = Y8
    have y8g : gI Y8.1 = gI Y6.1 ∧ gJ Y8.1 = gJ Y6.1 := by rw [← hY8]; exact ⟨rfl, rfl⟩
    have y80 : Y8.2 0 = d ∧ Y8.2 1 = Y.2 0 ∧ ∀ a, 3 ≤ a → Y8.2 a = Y.2 a := by
      rw [← hY8, g_sG, g_sG]
      refine ⟨by rw [ug_ne (by omega), ug_at], ug_at _ _ _, fun a ha => by rw [ug_ne (by omega), ug_ne (by omega), y62, z2 a (by omega)]⟩
    have dX : ∀ k, k ∈ [5, 7, 9, 10, 11, 12, 14, 15, 16, 17, 18, 19] → gI Y8.1 k d = gI Z.1 k d := fun k hk => by
      rw [y8g.1]
      refine (y6o k d ?_ ?_).1 <;> (intro z; rw [z] at hk; exact absurd hk (by decide))
    have hdim : ∀ {C A n : Nat} {Z2 : Sm}, 0 < C → 0 < A → Dr Z Z2 d C A n → 0 < (drP Z d C A).1 ∧ (drP Z d C A).1 ≤ 5 ∧ 0 < (drP Z d C A).2.1 ∧ (drP Z d C A).2.1 ≤ 8 := fun h1 h2 h3 => ⟨h1, h3.1.1, h2, h3.1.2.1⟩
    have D0 := r0.2.2.2.2
    obtain ⟨Y9, e71, f71, _⟩ := c_71 (X := Y8) (hdim hC0 hA0 D0) s3 D0.1.2.2 (D0.rw (g := fun _ => nI 0) dX)
    generalize hZf : sI (sI Y9 37 0 2 (nI 0)) 0 0 11 (nI 0) = Zf
    have zf2 : ∀ a, a ≠ 3 → Zf.2 a = Y8.2 a := fun a ha => by
      rw [← hZf]
      show Y9.2 a = Y8.2 a
      rw [f71.1, g_sG, ug_ne ha]
    have zf3 : Zf.2 3 = d := by
      rw [← hZf]
      show Y9.2 3 = d
      rw [f71.1, g_sG, ug_at]
    have zfo : ∀ k i, ¬ S2 0 k i → k ≠ 0 → k ≠ 37 → gI Zf.1 k i = gI Y6.1 k i ∧ gJ Zf.1 k i = gJ Y6.1 k i := fun k i hk h0 h37 => by
      have a := f71.2 k i hk
      rw [← hZf, gI_sIk h0, gI_sIk h37, gJ_sI, gJ_sI]
      exact ⟨a.1.trans (by rw [gI_sG, y8g.1]), a.2.trans (by rw [gJ_sG, y8g.2])⟩
    have nS : ∀ {k i : Nat}, ¬ k ∈ [12, 14, 15, 16, 17, 18, 19, 21, 22, 23, 24, 25, 27, 29, 30, 31, 32, 33, 34, 35, 36] → ¬ S2 0 k i := fun hk q => by
      unfold S2 at q
      simp only [List.mem_cons, List.mem_nil_iff, or_false] at *
      omega
    have zfM : ∀ k i, 48 ≤ k → gI Zf.1 k i = gI Y.1 k i ∧ gJ Zf.1 k i = gJ Y.1 k i := fun k i hk => by
      have a := zfo k i (nS (by simp only [List.mem_cons, List.mem_nil_iff, or_false]; omega)) (by omega) (by omega)
      have b := yM k i hk
      exact ⟨a.1.trans b.1, a.2.trans b.2⟩
    have eC : fn_106 Y = some (gI Zf.1 5 d 0, Zf) := by
      rw [e106, if_neg (by decide), e2d, e20, wr_t, wr_t, hY8, y80.1, e71, bd_t, wr_t, wr_t, hZf, zf2 0 (by omega), y80.1]
    -- the reference
    obtain ⟨Z2, e292, fZ2, z23, oo⟩ := runM Zf zfM
    rw [if_pos rfl] at e292
    rcases oo with ⟨_, _, C, A, n, hC0', hA0', r⟩ | ⟨q, _⟩
    · have D := r.2.2.2.2
      obtain ⟨⟨hC, hA, hn⟩, ⟨a1, a2, a3, a4⟩, hK, hAa, hS, hQ, hZ, hTt, hM⟩ := r.2.2.2.2
      obtain ⟨n3, n4, n31, n32⟩ := r.2.2.2.1
      obtain ⟨Zr, e269, ⟨t1, t2, t3⟩, ⟨m1, m2, m3, m17, m18⟩, m50, m51, m52⟩ := r_269 (W := Z2) hC hA a3 a4
      rw [e269, bd_t] at e292
      have hP3 := hdim hC0' hA0' D
      have hrw := D.rw (g := gI Z2.1 52 0) dX
      obtain ⟨Y9', e71', f71', cr9⟩ := c_71 (X := Y8) hP3 s3 hn hrw
      have e99 := Option.some.inj (e71'.symm.trans e71)
      have e99 : Y9' = Y9 := (Prod.mk.inj e99).2
      subst e99
      obtain ⟨gr, an⟩ := D.gr (g := gI Z2.1 52 0) hC0' hA0'
      have e52 : gI Zr.1 52 0 = drR Z2 C A (gI Z2.1 52 0) := m52
      -- frames from Zf to the end
      have g2 : Zr.2 = Zf.2 := t1.trans fZ2.1
      have gk : ∀ k i, k < 48 → gI Zr.1 k i = gI Zf.1 k i ∧ gJ Zr.1 k i = gJ Zf.1 k i := fun k i hk => by
        have a := t2 k i (by simp only [List.mem_cons, List.mem_nil_iff, or_false]; omega)
        have b := fZ2.2.1 k i (by simp only [List.mem_cons, List.mem_nil_iff, or_false]; omega)
        exact ⟨a.1.trans b.1, a.2.trans b.2⟩
      have g48 : ∀ x, x ≠ 0 → ¬ (23 ≤ x ∧ x ≤ 35) → ¬ (1 ≤ x ∧ x ≤ 7) → x ≠ 17 → x ≠ 18 → gI Zr.1 48 0 x = gI Y.1 48 0 x := fun x h1 h2 h3 h4 h5 => by
        rw [t3 x h3 h4 h5, fZ2.2.2 x h1 h2, (zfM 48 0 (by omega)).1]
      have p5 : ∀ k i, k = 5 ∨ k = 6 ∨ k = 8 ∨ k = 10 ∨ k = 11 → gI Zr.1 k i = gI Z.1 k i ∧ gJ Zr.1 k i = gJ Z.1 k i := fun k i hk => by
        have a := gk k i (by omega)
        have b := zfo k i (nS (by simp only [List.mem_cons, List.mem_nil_iff, or_false]; omega)) (by omega) (by omega)
        have e := y6o k i (by omega) (by omega)
        exact ⟨(a.1.trans b.1).trans e.1, (a.2.trans b.2).trans e.2⟩
      have crZ : CR Zr 0 (drP Z d C A) (gI Zr.1 52 0) n 0 := by
        rw [e52]
        refine cr9.frk hP3.2.2.2 ?_ (fun k i hk => ?_) ?_
        · rw [g2, ← hZf]
          rfl
        · have hk' : k < 48 ∧ k ≠ 0 ∧ k ≠ 37 := by
            unfold CRk S2 at hk
            simp only [List.mem_cons, List.mem_nil_iff, or_false] at hk
            omega
          rw [(gk k i hk'.1).1, ← hZf, gI_sIk hk'.2.1, gI_sIk hk'.2.2]
        · rw [(gk 25 0 (by omega)).2, ← hZf]
          rfl
      have eA : gI Zf.1 5 d 0 = nI C := by
        rw [(zfo 5 d (nS (by decide)) (by omega) (by omega)).1, (y6o 5 d (by omega) (by omega)).1]
        exact a1
      obtain ⟨tu', tu1, tu2, tu3, _⟩ := hS 0 (by omega)
      obtain ⟨ro', ro1, ro2, ro3, _⟩ := hS 1 (by omega)
      obtain ⟨x2, x21, x22, x23, _⟩ := hS 2 (by omega)
      obtain ⟨x3, x31, x32, x33, _⟩ := hS 3 (by omega)
      have z37 : ∀ x, x ≠ 2 → gI Zr.1 37 0 x = gI Y.1 37 0 x := fun x hx => by
        rw [(gk 37 0 (by omega)).1, ← hZf, gI_sIk (by omega), gI_sIv, upd_ne hx, f71'.gI (nS (by decide)), gI_sG, y8g.1, (y6o 37 0 (by omega) (by omega)).1, (zk 37 0 (fun q => by
          unfold SD at q
          simp only [List.mem_cons, List.mem_nil_iff, or_false] at q
          omega)).1]
      have z00 : ∀ x, x ≠ 11 → gI Zr.1 0 0 x = gI Y6.1 0 0 x := fun x hx => by
        rw [(gk 0 0 (by omega)).1, ← hZf, gI_sIv, upd_ne hx, gI_sIk (by omega), f71'.gI (nS (by decide)), gI_sG, y8g.1]
      refine ⟨nI C, Zf, Zr, by rw [eC, eA], by rw [e292, m1], funext fun i => (zfM 68 i (by omega)).1, funext fun i => ?_, drP Z d C A, tu', ro', 0, pos, false, ⟨⟨m1, m2, hP3, fun j hj => ?_, fun a ha => ?_⟩, fun a ha => ?_, ⟨?_, ?_, ?_, ?_⟩, ?_, ⟨?_, ?_, ?_⟩, ⟨x2, by have : x2 ≤ 99 := x22; omega, x23⟩, x3, by have : x3 ≤ 99 := x32; omega, x33⟩, ⟨?_, 0, n, 0, n, crZ, by rw [e52]; exact gr, by omega, by omega, by rw [e52]; exact an⟩, ⟨⟨h.2.2.1.1.1, by omega⟩, ?_, ?_, m17, fun j hj => absurd hj (Nat.not_lt_zero _)⟩, ⟨?_, m18, fun q => absurd q (by decide)⟩, ⟨⟨0, by omega, ?_, ?_, fun j hj => absurd hj (Nat.not_lt_zero _)⟩, ⟨?_, ?_⟩, ?_⟩, ⟨fun k hk => ?_, fun a ha => ?_⟩⟩
      · rw [(t2 68 i (by decide)).1, (fZ2.2.1 68 i (by decide)).1, (zfM 68 i (by omega)).1]
      · rw [m3 j hj]
        obtain ⟨x, _, _, e1, e2⟩ := hS j hj
        exact e2.trans e1.symm
      · rw [(m51 a ha).2]
        obtain ⟨_, _, w, _, _, e1, e2⟩ := hAa a ha
        exact e2.trans e1.symm
      · obtain ⟨_, _, w, w1, w2, e1, _⟩ := hAa a ha
        exact ⟨w, ⟨w1, by omega⟩, e1⟩
      · exact tu3
      · exact ro3
      · have h1 : 1 ≤ tu' := tu1
        have h2 : tu' ≤ 20 := tu2
        exact ⟨h1, by omega⟩
      · have h1 : 1 ≤ ro' := ro1
        have h2 : ro' ≤ 50 := ro2
        exact ⟨h1, by omega⟩
      · rw [g48 19 (by omega) (by omega) (by omega) (by omega) (by omega)]
        exact h.1.2.2.2.1
      · rw [g2, zf2 0 (by omega), zf2 1 (by omega), y80.1, y80.2.1]
        exact fun q => s1 q.symm
      · rw [g2, zf2 0 (by omega), y80.1]
        exact s3
      · rw [g2, zf2 1 (by omega), y80.2.1]
        exact s2
      · rw [g2, zf2 0 (by omega), y80.1]
        exact zf3
      · rw [z37 1 (by omega)]
        exact h.2.2.1.2.1
      · rw [(gk 37 0 (by omega)).1, ← hZf, gI_sIk (by omega), gI_sIv, upd_at]
      · rw [(gk 0 0 (by omega)).1, ← hZf, gI_sIv, upd_at]
        rfl
      · rw [(gk 1 0 (by omega)).1, (zfo 1 0 (nS (by decide)) (by omega) (by omega)).1]
        exact y61
      · rw [t3 23 (by omega) (by omega) (by omega)]
        exact z23
      · rw [z00 4 (by omega), y64.1, n3, t3 31 (by omega) (by omega) (by omega), n31]
      · rw [z00 5 (by omega), y64.2, n4, t3 32 (by omega) (by omega) (by omega), n32]
      · obtain ⟨w, hw, o1, o2, o3⟩ := hO
        refine ⟨w, hw, ?_, ?_, fun j hj => ?_⟩
        · rw [z00 3 (by omega), y60 3 (by omega) (by omega)]; exact o1
        · rw [g48 41 (by omega) (by omega) (by omega) (by omega) (by omega)]; exact o2
        · have e65 : gI Zr.1 65 0 = gI Y.1 65 0 := by rw [(t2 65 0 (by decide)).1, (fZ2.2.1 65 0 (by decide)).1, (zfM 65 0 (by omega)).1]
          have e20' : gI Zr.1 20 0 = gI Y.1 20 0 := by
            rw [(gk 20 0 (by omega)).1, (zfo 20 0 (nS (by decide)) (by omega) (by omega)).1, (y6o 20 0 (by omega) (by omega)).1, (zk 20 0 (fun q => by
              unfold SD at q
              simp only [List.mem_cons, List.mem_nil_iff, or_false] at q
              omega)).1]
          rw [e65, e20']
          exact o3 j hj
      · rw [g2, zf2 0 (by omega), y80.1, (p5 6 d (by omega)).2, m50 k hk]
        exact (hK k hk).1
      · rw [g2, zf2 0 (by omega), y80.1, (p5 8 d (by omega)).2, (m51 a ha).1]
        exact (hAa a ha).1
    · exact absurd q (by decide)
  · subst hv
    obtain ⟨Z2, e292, fZ2, z23, oo⟩ := runM Y6 yM
    rw [if_neg (by decide)] at e292
    rw [if_pos rfl] at e106
    rcases oo with ⟨q, _⟩ | ⟨_, er⟩
    · exact absurd q (by decide)
    · obtain ⟨e, p, _, _, x3, x4, w1, w2⟩ := er
      refine ⟨(-1 : Int32), Y6, Z2, e106, e292, funext fun i => (yM 68 i (by omega)).1, funext fun i => ?_, P, tu, ro, u, pos, b, ?_⟩
      · rw [(fZ2.2.1 68 i (by decide)).1, (yM 68 i (by omega)).1]
      · refine R6.up (c := c) (c' := c + 1) ?_ (by omega)
        refine h.pa (fun a ha => ?_) (fun k i hk => ?_) (fun x h4 h5 => ?_) (fun x hx => ?_) ⟨0, by omega, ?_, z23, fun j hj => absurd hj (Nat.not_lt_zero _)⟩ ⟨?_, ?_⟩
        · rw [fZ2.1, y62, z2 a ha]
        · rw [hd] at hk
          have hk' : ¬ k ∈ [48, 53, 61, 62, 63, 64] ∧ k ≠ 0 ∧ k ≠ 1 ∧ ¬ SD d k i := by
            unfold PK at hk
            unfold SD
            simp only [List.mem_cons, List.mem_nil_iff, or_false] at *
            omega
          have a := fZ2.2.1 k i hk'.1
          have b := y6o k i hk'.2.1 hk'.2.2.1
          have e := zk k i hk'.2.2.2
          exact ⟨(a.1.trans b.1).trans e.1, (a.2.trans b.2).trans e.2⟩
        · rw [(fZ2.2.1 0 0 (by decide)).1]; exact y60 x h4 h5
        · rw [fZ2.2.2 x (by omega) (by omega), (yM 48 0 (by omega)).1]
        · rw [(fZ2.2.1 1 0 (by decide)).1]; exact y61
        · rw [(fZ2.2.1 0 0 (by decide)).1, y64.1, x3, w1]
        · rw [(fZ2.2.1 0 0 (by decide)).1, y64.2, x4, w2]
