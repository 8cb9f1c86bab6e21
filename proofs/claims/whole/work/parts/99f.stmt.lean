/-! a statement, and its end -/
theorem TkM.w28 {W : Sm} {L s j : Nat} {B : Nat → Nat} (h : TkM W L B s) (hj : j < 17) : (gI W.1 48 0 27 = nI 1 ∧ gI W.1 48 0 28 = nI j) ↔ wb L B s j = true := by
  constructor
  · rintro ⟨a, b⟩
    have k1 := h.k1.mp a
    unfold wb
    rw [k1, Bool.and_eq_true]
    exact ⟨rfl, (wd_iff hj).mp ((h.2.2.2.2.2.1 k1).1.symm.trans b)⟩
  · intro w
    unfold wb at w
    rw [Bool.and_eq_true] at w
    have k1 := Nat.eq_of_beq_eq_true w.1
    exact ⟨h.k1.mpr k1, (h.2.2.2.2.2.1 k1).1.trans ((wd_iff hj).mpr w.2)⟩
theorem r_w7 {W : Sm} {L s : Nat} {B : Nat → Nat} (h : TkM W L B s) {ρ : Type} {x y : Option ρ} : (if gI W.1 48 0 27 = nI 1 then (if gI W.1 48 0 28 = nI 7 then x else y) else y) = cond (wb L B s 7) x y := by
  cases w : wb L B s 7 with
  | true =>
    obtain ⟨a, b⟩ := (h.w28 (j := 7) (by omega)).mpr w
    rw [if_pos a, if_pos b, cnd_t]
  | false =>
    rw [cnd_f]
    by_cases a : gI W.1 48 0 27 = nI 1
    · rw [if_pos a, if_neg (fun b => by rw [(h.w28 (j := 7) (by omega)).mp ⟨a, b⟩] at w; cases w)]
    · rw [if_neg a]
theorem r_71y {W : Sm} {L s j : Nat} {B : Nat → Nat} (h : TkM W L B s) (hj : j < 5) (w : wb L B s (11 + j) = true) : fn_291_J71 W = bd (fn_289 (nI (j + 1)) W) fun _ Y23 => fn_291_J116 Y23 := by
  obtain ⟨a, b⟩ := (h.w28 (j := 11 + j) (by omega)).mpr w
  unfold fn_291_J71
  rw [if_pos a, b, r_isIn, rng (by omega) (by omega) (by omega), decide_eq_true (by omega), bd_t, bI_t, if_neg (by decide), b, pk_sub (by omega), show 11 + j - 10 = j + 1 by omega]
theorem r_71n {W : Sm} {L s : Nat} {B : Nat → Nat} (h : TkM W L B s) (w : ∀ j, j < 5 → wb L B s (11 + j) = false) : fn_291_J71 W = fn_291_J110 W := by
  unfold fn_291_J71
  by_cases k1 : kdS L B s = 1
  · rw [if_pos (h.k1.mpr k1), r_isIn, bd_t, bI_0]
    rcases h.wd k1 with ⟨e, _⟩ | ⟨j, hj, e, hw⟩
    · rw [e, rng_m (by omega), cnd_f]
    · have : ¬ (11 ≤ j ∧ j ≤ 15) := fun q => by
        have := w (j - 11) (by omega)
        rw [show 11 + (j - 11) = j by omega, hw] at this
        cases this
      rw [e, rng (by omega) (by omega) (by omega), decide_eq_false this, cnd_f]
  · rw [if_neg (fun q => k1 (h.k1.mp q))]
theorem s_stmt {d L s C A n : Nat} {B : Nat → Nat} {X W : Sm} (h : RdR d L B s C A n X W) (hs : s < L) : ∃ v Z M, fn_62 X = some (v, Z) ∧ fn_291 W = fn_291_J116 M ∧ Ou d L B s X W v Z M := by
  have h0 := h.2.2.2.1.2.2.1
  have hX := h.2.1
  have hW := h.2.2.1
  have fin : ∀ {v : Int32} {Z : Sm}, v = nI 1 ∨ v = nI 0 → (bd (some (v, Z)) fun v30 Y28 => ck (bz v30) <| some (v30, Y28)) = some (v, Z) := fun hv => by
    rw [bd_t]
    rcases hv with rfl | rfl <;> exact ck_t (by decide)
  have ov : ∀ {v : Int32} {Z M : Sm}, Ou d L B s X W v Z M → v = nI 1 ∨ v = nI 0 := fun h => by
    rcases h.2.2 with ⟨q, _⟩ | ⟨q, _⟩
    · exact Or.inl q
    · exact Or.inr q
  unfold fn_62 fn_291
  rw [c_is hX (by omega), bd_t, bI_0, r_w hW h0 (by omega), bd_t, bI_0]
  cases w0 : wb L B s 0 with
  | true =>
    obtain ⟨v, Z, M, e1, e2, o⟩ := s_class h hs
    exact ⟨v, Z, M, by rw [cnd_t, e1, fin (ov o)], by rw [cnd_t, e2, bd_t], o⟩
  | false =>
    rw [cnd_f, cnd_f, c_is hX (by omega), bd_t, bI_0, r_w hW h0 (by omega), bd_t, bI_0]
    cases w4 : wb L B s 4 with
    | true =>
      obtain ⟨v, Z, M, e1, e2, o⟩ := s_asker h hs
      exact ⟨v, Z, M, by rw [cnd_t, e1, fin (ov o)], by rw [cnd_t, e2, bd_t], o⟩
    | false =>
      rw [cnd_f, cnd_f, c_is hX (by omega), bd_t, bI_0, r_w hW h0 (by omega), bd_t, bI_0]
      cases w16 : wb L B s 16 with
      | true =>
        obtain ⟨v, Z, M, e1, e2, o⟩ := s_ask h hs
        exact ⟨v, Z, M, by rw [cnd_t, e1, fin (ov o)], by rw [cnd_t, e2, bd_t], o⟩
      | false =>
        rw [cnd_f, cnd_f, c_is hX (by omega), bd_t, bI_0, r_w7 hW]
        cases w7 : wb L B s 7 with
        | true =>
          obtain ⟨v, Z, M, e1, e2, o⟩ := s_tally h hs
          exact ⟨v, Z, M, by rw [cnd_t, e1, fin (ov o)], by rw [cnd_t, e2, bd_t], o⟩
        | false =>
          have set : ∀ j, j < 5 → wb L B s (11 + j) = true → ∃ v Z M, (bd (fn_68 (nI j) (nI (stL j)) (nI (stH j)) X) fun v30 Y28 => ck (bz v30) <| some (v30, Y28)) = some (v, Z) ∧ fn_291_J71 W = fn_291_J116 M ∧ Ou d L B s X W v Z M := fun j hj hw => by
            obtain ⟨v, Z, M, e1, e2, o⟩ := s_set h hs hj
            exact ⟨v, Z, M, by rw [e1, fin (ov o)], by rw [r_71y hW hj hw, e2, bd_t], o⟩
          rw [cnd_f, cnd_f, c_is hX (by omega), bd_t, bI_0]
          cases w11 : wb L B s 11 with
          | true => rw [cnd_t]; exact set 0 (by omega) w11
          | false =>
            rw [cnd_f, c_is hX (by omega), bd_t, bI_0]
            cases w12 : wb L B s 12 with
            | true => rw [cnd_t]; exact set 1 (by omega) w12
            | false =>
              rw [cnd_f, c_is hX (by omega), bd_t, bI_0]
              cases w13 : wb L B s 13 with
              | true => rw [cnd_t]; exact set 2 (by omega) w13
              | false =>
                rw [cnd_f, c_is hX (by omega), bd_t, bI_0]
                cases w14 : wb L B s 14 with
                | true => rw [cnd_t]; exact set 3 (by omega) w14
                | false =>
                  rw [cnd_f, c_is hX (by omega), bd_t, bI_0]
                  cases w15 : wb L B s 15 with
                  | true => rw [cnd_t]; exact set 4 (by omega) w15
                  | false =>
                    have := r_need (W := W) (b := false) (e := 1) h0
                    rw [bI_f, cnd_f] at this
                    rw [cnd_f, c_60, fin (Or.inr rfl), r_71n hW (fun j hj => by
                      have hj' : j = 0 ∨ j = 1 ∨ j = 2 ∨ j = 3 ∨ j = 4 := by omega
                      rcases hj' with rfl | rfl | rfl | rfl | rfl
                      · exact w11
                      · exact w12
                      · exact w13
                      · exact w14
                      · exact w15)]
                    unfold fn_291_J110
                    rw [this, bd_t]
                    exact ⟨nI 0, _, _, rfl, rfl, Ou.err (e := 1) (by omega) (by omega) erC_f erM_f hX hW erC_3 erC_4 erM_31 erM_32⟩
theorem ErB.ne {X W : Sm} (h : ErB X W) : gI X.1 3 0 3 ≠ nI 0 ∧ gI W.1 48 0 31 ≠ nI 0 := by
  obtain ⟨e, p, h1, h5, a, _, b, _⟩ := h
  rw [a, b]
  have : nI e ≠ nI 0 := fun q => by have := (nI_eq (by omega) (by omega)).mp q; omega
  exact ⟨this, this⟩
/-- a whole statement -/
theorem s_whole {d L s C A n l2 : Nat} {B : Nat → Nat} {X W : Sm} (h : RdR d L B s C A n X W) (hs : s < L) (hl : l2 < 500) : ∃ Z Z2, fn_59_L36 (nI l2) X = some (.inl (nI (l2 + 1), Z)) ∧ fn_292_L41 W = some (.inl Z2) ∧ Fr (SD d) X Z ∧ FrW W Z2 ∧ ((∃ s' C A n, s < s' ∧ RdR d L B s' C A n Z Z2) ∨ ErB Z Z2) := by
  have h0 := h.2.2.2.1.2.2.1
  have k0 : kdS L B s ≠ 0 := fun q => by
    unfold kdS at q
    rw [if_pos hs] at q
    by_cases a : ltA (B s) = true
    · rw [if_pos a] at q; omega
    · rw [if_neg a] at q
      by_cases b : dgA (B s) = true
      · rw [if_pos b] at q; omega
      · rw [if_neg b] at q
        by_cases c : B s = 59
        · rw [if_pos c] at q; omega
        · rw [if_neg c] at q; omega
  have hk := kdS_lt L B s
  have hr := krS_lt L B s
  have n1 : gI X.1 4 0 1 ≠ nI 0 := fun q => by
    rw [h.2.1.2.2.1] at q
    exact k0 ((nI_eq (by omega) (by omega)).mp q)
  have n2 : gI W.1 48 0 27 ≠ nI 0 := fun q => by
    rw [h.2.2.1.2.2.2.2.1] at q
    exact k0 ((krS_k (by omega) (by omega)).mp ((nI_eq (by omega) (by omega)).mp q))
  obtain ⟨v, Z, M, e62, e291, fZ, fM, o⟩ := s_stmt h hs
  have cl : fn_59_L36 (nI l2) X = (if v = nI 0 then some (.inl (nI (l2 + 1), Z)) else bd (fn_61 Z) fun v20 Y18 => some (.inl (nI (l2 + 1), Y18))) := by
    unfold fn_59_L36
    rw [iteI_le_f hl (by omega), if_pos h.2.2.2.1.1, if_neg n1, e62, bd_t, nI_add]
  have rl : fn_292_L41 W = bd (fn_291_J116 M) fun _ Y20 => some (.inl Y20) := by
    unfold fn_292_L41
    rw [r_fine h0, bd_t, if_neg (by decide), if_neg n2, e291]
  rcases o with ⟨ev, s', C', A', n', hs', r⟩ | ⟨ev, er⟩
  · have h0' := r.2.2.2.1.2.2.1
    have hk' := kdS_lt L B s'
    have hr' := krS_lt L B s'
    rw [ev, if_neg (by decide)] at cl
    unfold fn_61 at cl
    unfold fn_291_J116 at rl
    rw [r.2.1.2.2.1] at cl
    rw [r.2.2.1.2.2.2.2.1] at rl
    by_cases c : kdS L B s' = 3
    · obtain ⟨X1, W1, eX1, eW1, nn⟩ := r.step
      have r1 := r.nx nn
      rw [c, if_pos rfl, eX1, bd_t, bd_t] at cl
      rw [(krS_k (by omega) (by omega)).mpr c, if_pos rfl, r_needs, bd_t, eW1, bd_t, bd_t] at rl
      refine ⟨X1, W1, cl, rl, fZ.tr nn.1.d4, fM.tr nn.2.1.w, Or.inl ⟨nxt L B s', C', A', n', ?_, r1⟩⟩
      have : s' ≤ nxt L B s' := Nat.le_trans edS_ge rn_ge
      omega
    · have nb := erM_ne (W := M) (e := 1) (by omega) (by omega)
      have := r_need (W := M) (b := false) (e := 1) h0'
      rw [bI_f, cnd_f] at this
      rw [if_neg (fun q => c ((nI_eq (by omega) (by omega)).mp q)), c_60, bd_t, ck_t (by decide), bd_t] at cl
      rw [if_neg (fun q => c ((krS_k (by omega) (by omega)).mp ((nI_eq (by omega) (by omega)).mp q))), this, bd_t, r_goOnb nb, bd_t, bd_t] at rl
      exact ⟨_, _, cl, rl, fZ.tr erC_f, fM.tr erM_f, Or.inr (ErB.mk (by omega) (by omega) r.2.1 r.2.2.1 erM_31 erM_32)⟩
  · have nb := er.ne.2
    rw [ev, if_pos rfl] at cl
    have j116 : fn_291_J116 M = some ((), M) := by
      unfold fn_291_J116
      by_cases c : gI M.1 48 0 27 = nI 3
      · rw [if_pos c, r_needsb nb, bd_t, r_goOnb nb, bd_t]
      · rw [if_neg c, r_needsb nb, bd_t, r_goOnb nb, bd_t]
    rw [j116, bd_t] at rl
    exact ⟨Z, M, cl, rl, fZ, fM, Or.inr er⟩
/-- all statements -/
theorem s_all {d L : Nat} {B : Nat → Nat} : ∀ (k s C A n l2 N N2 : Nat) (X W : Sm), L - s ≤ k → l2 ≤ s → k < N → k < N2 → RdR d L B s C A n X W → ∃ Z Z2, lp (fun s => fn_59_L36 s.1 s.2) N (nI l2, X) = some (.inl Z) ∧ lp (fun s => fn_292_L41 s) N2 W = some (.inl Z2) ∧ Fr (SD d) X Z ∧ FrW W Z2 ∧ ((∃ s' C A n, RdR d L B s' C A n Z Z2) ∨ ErB Z Z2) := by
  intro k
  induction k with
  | zero =>
    intro s C A n l2 N N2 X W hk hl hN hN2 h
    obtain ⟨N, rfl⟩ : ∃ m, N = m + 1 := ⟨N - 1, by omega⟩
    obtain ⟨N2, rfl⟩ : ∃ m, N2 = m + 1 := ⟨N2 - 1, by omega⟩
    have hs := h.2.1.2.1
    have hL := h.2.1.1.1
    have k0 : kdS L B s = 0 := by unfold kdS; rw [if_neg (by omega)]
    have e1 : gI X.1 4 0 1 = nI 0 := by rw [h.2.1.2.2.1, k0]
    have e2 : gI W.1 48 0 27 = nI 0 := by rw [h.2.2.1.2.2.2.2.1, (krS_k (by omega) (by omega)).mpr k0]
    refine ⟨X, W, lp_sr (F := fun s => fn_59_L36 s.1 s.2) (s := (nI l2, X)) ?_, lp_sr (F := fun s => fn_292_L41 s) (s := W) ?_, Fr.rf, FrW.rf, Or.inl ⟨s, C, A, n, h⟩⟩
    · simp only [fn_59_L36]
      by_cases c : 500 ≤ l2
      · rw [iteI_le_t c (by omega)]
      · rw [iteI_le_f (by omega) (by omega), if_pos h.2.2.2.1.1, if_pos e1]
    · simp only [fn_292_L41]
      rw [r_fine h.2.2.2.1.2.2.1, bd_t, if_neg (by decide), if_pos e2]
  | succ k ih =>
    intro s C A n l2 N N2 X W hk hl hN hN2 h
    have hs := h.2.1.2.1
    have hL := h.2.1.1.1
    by_cases c : s < L
    · obtain ⟨N, rfl⟩ : ∃ m, N = m + 2 := ⟨N - 2, by omega⟩
      obtain ⟨N2, rfl⟩ : ∃ m, N2 = m + 2 := ⟨N2 - 2, by omega⟩
      obtain ⟨Z, Z2, e1, e2, f1, f2, o⟩ := s_whole h c (show l2 < 500 by omega)
      rw [lp_sl (F := fun s => fn_59_L36 s.1 s.2) (s := (nI l2, X)) (s' := (nI (l2 + 1), Z)) e1, lp_sl (F := fun s => fn_292_L41 s) (s := W) (s' := Z2) e2]
      rcases o with ⟨s', C', A', n', hs', r⟩ | er
      · obtain ⟨Y, Y2, y1, y2, y3, y4, y5⟩ := ih s' C' A' n' (l2 + 1) (N + 1) (N2 + 1) Z Z2 (by omega) (by omega) (by omega) (by omega) r
        exact ⟨Y, Y2, y1, y2, f1.tr y3, f2.tr y4, y5⟩
      · refine ⟨Z, Z2, lp_sr (F := fun s => fn_59_L36 s.1 s.2) (s := (nI (l2 + 1), Z)) ?_, lp_sr (F := fun s => fn_292_L41 s) (s := Z2) ?_, f1, f2, Or.inr er⟩
        · simp only [fn_59_L36]
          by_cases c : 500 ≤ l2 + 1
          · rw [iteI_le_t c (by omega)]
          · rw [iteI_le_f (by omega) (by omega), if_neg er.ne.1]
        · simp only [fn_292_L41]
          rw [r_bad er.ne.2, bd_t, if_pos rfl]
    · exact ih s C A n l2 N N2 X W (by omega) hl (by omega) (by omega) h
/-- the text is read, both sides -/
theorem p_read {d L s C A n : Nat} {B : Nat → Nat} {X W : Sm} (h : RdR d L B s C A n X W) : ∃ v Z Z2, (exd (lp (fun s => fn_59_L36 s.1 s.2) FU (nI 0, X)) fun s9 => fn_59_J78 s9) = some (v, Z) ∧ (exd (lp (fun s => fn_292_L41 s) FU W) fun s9 => fn_292_J62 s9) = (if v = nI 1 then (bd (fn_269 Z2) fun _ Y27 => some ((gI Y27.1 48 0 1), Y27)) else some ((-1 : Int32), Z2)) ∧ Fr (SD d) X Z ∧ FrW W Z2 ∧ ((v = nI 1 ∧ ∃ s' C A n, 0 < C ∧ 0 < A ∧ RdR d L B s' C A n Z Z2) ∨ (v = nI 0 ∧ ErB Z Z2)) := by
  have hL := h.2.1.1.1
  obtain ⟨Z, Z2, e1, e2, f1, f2, o⟩ := s_all L s C A n 0 FU FU X W (by omega) (by omega) (FU_lt (by omega)) (FU_lt (by omega)) h
  rw [e1, exd_l, e2, exd_l]
  rcases o with ⟨s', C', A', n', r⟩ | er
  · have hd2 : Z.2 2 = d := r.1
    have r0 := r.2.2.2.1.1
    have r31 := r.2.2.2.1.2.2.1
    obtain ⟨⟨hC, hA, hn⟩, ⟨d1, d2, d3, d4⟩, _⟩ := r.2.2.2.2
    have nb := erM_ne (W := Z2) (e := 5) (by omega) (by omega)
    have z5 : gI (erC Z (nI 5)).1 3 0 3 ≠ nI 0 := by rw [erC_3]; decide
    have j105 : fn_59_J105 Z = some (nI 0, erC Z (nI 5)) := by
      unfold fn_59_J105
      rw [c_60, bd_t, if_neg z5]
    have need := r_need (W := Z2) (b := false) (e := 5) r31
    rw [bI_f, cnd_f] at need
    have j82 : fn_292_J82 (nI 0) Z2 = some ((-1 : Int32), erM Z2 (nI 5)) := by
      unfold fn_292_J82
      rw [need, bd_t, r_bad nb, bd_t, if_pos rfl]
    have bad : ∀ v Y, fn_59_J78 Z = some (v, Y) → v = nI 0 → Y = erC Z (nI 5) → fn_292_J62 Z2 = some ((-1 : Int32), erM Z2 (nI 5)) → ∃ v Y Y2, fn_59_J78 Z = some (v, Y) ∧ fn_292_J62 Z2 = (if v = nI 1 then (bd (fn_269 Y2) fun _ Y27 => some ((gI Y27.1 48 0 1), Y27)) else some ((-1 : Int32), Y2)) ∧ Fr (SD d) X Y ∧ FrW W Y2 ∧ ((v = nI 1 ∧ ∃ s' C A n, 0 < C ∧ 0 < A ∧ RdR d L B s' C A n Y Y2) ∨ (v = nI 0 ∧ ErB Y Y2)) := fun v Y q1 q2 q3 q4 => by
      refine ⟨v, Y, erM Z2 (nI 5), q1, ?_, by rw [q3]; exact f1.tr erC_f, f2.tr erM_f, Or.inr ⟨q2, ?_⟩⟩
      · rw [q2, if_neg (by decide), q4]
      · rw [q3]
        exact ErB.mk (by omega) (by omega) r.2.1 r.2.2.1 erM_31 erM_32
    by_cases c : C' = 0
    · refine bad (nI 0) (erC Z (nI 5)) ?_ rfl rfl ?_
      · unfold fn_59_J78
        rw [if_pos r0, hd2, d1, c, if_pos rfl, j105]
      · unfold fn_292_J62 fn_292_J81
        rw [d3, c, iteI_le_t (by omega) (by omega), j82]
    · by_cases a : A' = 0
      · refine bad (nI 0) (erC Z (nI 5)) ?_ rfl rfl ?_
        · unfold fn_59_J78
          rw [if_pos r0, hd2, d1, if_neg (fun q => c ((nI_eq (by omega) (by omega)).mp q)), d2, a, if_pos rfl, j105]
        · unfold fn_292_J62 fn_292_J81
          rw [d3, iteI_le_f (by omega) (by omega), d4, a, iteI_le_t (by omega) (by omega), j82]
      · refine ⟨nI 1, Z, Z2, ?_, ?_, f1, f2, Or.inl ⟨rfl, s', C', A', n', by omega, by omega, r⟩⟩
        · unfold fn_59_J78
          rw [if_pos r0, hd2, d1, if_neg (fun q => c ((nI_eq (by omega) (by omega)).mp q)), d2, if_neg (fun q => a ((nI_eq (by omega) (by omega)).mp q)), if_pos r0]
        · unfold fn_292_J62
          rw [d3, iteI_le_f (by omega) (by omega), d4, iteI_le_f (by omega) (by omega), if_pos rfl]
          unfold fn_292_J82
          rw [r_needs, bd_t, r_fine r31, bd_t, if_neg (by decide)]
  · obtain ⟨n1, n2⟩ := er.ne
    refine ⟨nI 0, Z, Z2, ?_, ?_, f1, f2, Or.inr ⟨rfl, er⟩⟩
    · unfold fn_59_J78
      rw [if_neg n1, if_neg n1]
    · have j82 : ∀ t, fn_292_J82 t Z2 = some ((-1 : Int32), Z2) := fun t => by
        unfold fn_292_J82
        rw [r_needsb n2, bd_t, r_bad n2, bd_t, if_pos rfl]
      rw [if_neg (by decide)]
      unfold fn_292_J62 fn_292_J81
      by_cases a : gI Z2.1 48 0 33 ≤ nI 0
      · rw [if_pos a, j82]
      · rw [if_neg a]
        by_cases b : gI Z2.1 48 0 34 ≤ nI 0
        · rw [if_pos b, j82]
        · rw [if_neg b, j82]
