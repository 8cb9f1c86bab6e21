theorem c_161s {Y X : Sm} {t : List Nat} (h : OC Y X t) (ht : t.length + 3 ≤ 64) {ρ : Type} {K : Unit → Sm → Option ρ} {r : Option ρ} (hK : ∀ Z, OC Y Z (t ++ [32, 62, 32]) → K () Z = r) : (bd (fn_161 (nI 32) X) fun _ Y14 => bd (fn_161 (nI 62) Y14) fun _ Y16 => bd (fn_161 (nI 32) Y16) K) = r := by
  obtain ⟨Z1, e1, h1⟩ := c_161 (n := 32) h (by omega) (by omega)
  have l1 : (t ++ [32]).length = t.length + 1 := by rw [List.length_append]; rfl
  obtain ⟨Z2, e2, h2⟩ := c_161 (n := 62) h1 (by omega) (by omega)
  have l2 : (t ++ [32] ++ [62]).length = t.length + 2 := by rw [List.length_append, l1]; rfl
  obtain ⟨Z3, e3, h3⟩ := c_161 (n := 32) h2 (by omega) (by omega)
  rw [e1, bd_t, e2, bd_t, e3, bd_t]
  refine hK Z3 ?_
  rw [List.append_assoc, List.append_assoc] at h3
  exact h3
theorem r_296s {Y X : Sm} {t : List Nat} (h : OM Y X t) (ht : t.length + 3 ≤ 60) {ρ : Type} {K : Unit → Sm → Option ρ} {r : Option ρ} (hK : ∀ Z, OM Y Z (t ++ [32, 62, 32]) → K () Z = r) : (bd (fn_296 (nI 32) X) fun _ Y14 => bd (fn_296 (nI 62) Y14) fun _ Y16 => bd (fn_296 (nI 32) Y16) K) = r := by
  obtain ⟨Z1, e1, h1⟩ := r_296 (n := 32) h (by omega) (by omega)
  have l1 : (t ++ [32]).length = t.length + 1 := by rw [List.length_append]; rfl
  obtain ⟨Z2, e2, h2⟩ := r_296 (n := 62) h1 (by omega) (by omega)
  have l2 : (t ++ [32] ++ [62]).length = t.length + 2 := by rw [List.length_append, l1]; rfl
  obtain ⟨Z3, e3, h3⟩ := r_296 (n := 32) h2 (by omega) (by omega)
  rw [e1, bd_t, e2, bd_t, e3, bd_t]
  refine hK Z3 ?_
  rw [List.append_assoc, List.append_assoc] at h3
  exact h3
/-- the text behind j classes -/
def poT (nm : Nat → List Nat) (o : Nat → Nat) (vt : Nat → Bool) : Nat → List Nat
  | 0 => []
  | j + 1 => (if j = 0 then poT nm o vt j else poT nm o vt j ++ [32, 62, 32]) ++ lw (nm (o j)) ++ (if vt (o j) then [42] else [])
theorem poT_len {nm : Nat → List Nat} {o : Nat → Nat} {vt : Nat → Bool} {C : Nat} (h : ∀ j, j < C → (nm (o j)).length ≤ 6) : ∀ j, j ≤ C → (poT nm o vt j).length ≤ 10 * j := by
  intro j
  induction j with
  | zero => intro _; exact Nat.le_refl _
  | succ j ih =>
    intro hj
    have := ih (by omega)
    have h6 := h j (by omega)
    have e1 : (if vt (o j) then [42] else []).length ≤ 1 := by cases vt (o j) <;> decide
    have e2 : (if j = 0 then poT nm o vt j else poT nm o vt j ++ [32, 62, 32]).length ≤ (poT nm o vt j).length + 3 := by
      by_cases c : j = 0
      · rw [if_pos c]; omega
      · rw [if_neg c, List.length_append]; exact Nat.le_refl _
    have e3 : (lw (nm (o j))).length = (nm (o j)).length := by unfold lw; rw [List.length_map]
    show ((if j = 0 then poT nm o vt j else poT nm o vt j ++ [32, 62, 32]) ++ lw (nm (o j)) ++ (if vt (o j) then [42] else [])).length ≤ _
    rw [List.length_append, List.length_append, e3]
    omega
theorem poT_lo {nm : Nat → List Nat} {o : Nat → Nat} {vt : Nat → Bool} {C : Nat} (h : ∀ j, j < C → ∀ a ∈ nm (o j), 1 ≤ a ∧ a ≤ 26) : ∀ j, j ≤ C → ∀ a ∈ poT nm o vt j, a < 128 := by
  intro j
  induction j with
  | zero => intro _ a ha; exact absurd ha (List.not_mem_nil)
  | succ j ih =>
    intro hj a ha
    have ha : a ∈ ((if j = 0 then poT nm o vt j else poT nm o vt j ++ [32, 62, 32]) ++ lw (nm (o j)) ++ (if vt (o j) then [42] else [])) := ha
    rcases List.mem_append.mp ha with ha | ha
    · rcases List.mem_append.mp ha with ha | ha
      · by_cases c : j = 0
        · rw [if_pos c] at ha
          exact ih (by omega) a ha
        · rw [if_neg c] at ha
          rcases List.mem_append.mp ha with ha | ha
          · exact ih (by omega) a ha
          · simp only [List.mem_cons, List.mem_nil_iff, or_false] at ha
            omega
      · unfold lw at ha
        obtain ⟨x, hx, rfl⟩ := List.mem_map.mp ha
        have := h j (by omega) x hx
        omega
    · cases hv : vt (o j) with
      | true =>
        rw [hv, if_pos rfl] at ha
        simp only [List.mem_cons, List.mem_nil_iff, or_false] at ha
        omega
      | false =>
        rw [hv, if_neg (by decide)] at ha
        exact absurd ha (List.not_mem_nil)
theorem ok_46 {Y : Sm} {c : Nat} (h : RR Y c) : Sok fn_150 fn_298 Y c := by
  obtain ⟨P, tu, ro, u, pos, b, h⟩ := h
  have h3 := h.1.a8
  obtain ⟨hN1, hN2⟩ := h.2.2.2.2.2
  obtain ⟨hII, hE, hO⟩ := h.2.2.2.2.1
  obtain ⟨e0, t0, n, m, s, hR, hG, _⟩ := h.cl
  have hor := hG.2.2.2.2.2.1
  have ho : ∀ j, ∃ x, j < P.1 → x < P.1 ∧ gI Y.1 52 0 (10 + j) = nI x := fun j => by
    by_cases c : j < P.1
    · obtain ⟨x, hx, e⟩ := hor.2 j c
      exact ⟨x, fun _ => ⟨hx, e⟩⟩
    · exact ⟨0, fun q => absurd q c⟩
  obtain ⟨o, ho⟩ := Classical.axiomOfChoice ho
  have hn : ∀ k, ∃ w, k < P.1 → Wd w ∧ gJ Y.1 6 (Y.2 0) k = nL (n256 w) ∧ gJ Y.1 50 0 k = nL (n32 w) := fun k => by
    by_cases c : k < P.1
    · obtain ⟨w, hw, e1, e2⟩ := hN1 k c
      exact ⟨w, fun _ => ⟨hw, e1, e2⟩⟩
    · exact ⟨[], fun q => absurd q c⟩
  obtain ⟨nm, hn⟩ := Classical.axiomOfChoice hn
  have hlen := poT_len (nm := nm) (o := o) (vt := fun k => hasS (gI Y.1 52 0 4) (nI k)) (C := P.1) (fun j hj => (hn _ (ho j hj).1).1.2.1)
  have hlo := poT_lo (nm := nm) (o := o) (vt := fun k => hasS (gI Y.1 52 0 4) (nI k)) (C := P.1) (fun j hj => (hn _ (ho j hj).1).1.2.2)
  generalize hT : poT nm o (fun k => hasS (gI Y.1 52 0 4) (nI k)) = T at hlen hlo
  have hTs : ∀ j, T (j + 1) = (if j = 0 then T j else T j ++ [32, 62, 32]) ++ lw (nm (o j)) ++ (if hasS (gI Y.1 52 0 4) (nI (o j)) then [42] else []) := fun j => by rw [← hT]; rfl
  have hT0 : T 0 = [] := by rw [← hT]; rfl
  have key1 : ∃ Z, fn_150 Y = some (nI (T P.1).length, Z) ∧ OC Y Z (T P.1) := by
    have key := Ok_lp (F := fun s => fn_150_L7 s.1 s.2) (Q := fun x => ∃ Z, x = (nI (T P.1).length, Z) ∧ OC Y Z (T P.1)) (fun j s => s.1 = nI j ∧ OC Y s.2 (T j)) P.1 (N := FU) (FU_lt (by omega)) (s := (nI 0, sI Y 0 0 3 (nI 0))) ?_ ?_ ?_
    · obtain ⟨x, ex, Z, rfl, hZ⟩ := key
      refine ⟨Z, ?_, hZ⟩
      unfold fn_150
      rw [wr_t, ex]
    · rintro j ⟨l1, X⟩ hj ⟨E, hX⟩
      have E : l1 = nI j := E
      subst E
      have hX : OC Y X (T j) := hX
      have hl := hlen j (by omega)
      obtain ⟨hoj, eoj⟩ := ho j hj
      obtain ⟨hw, ew, _⟩ := hn (o j) hoj
      have e22 : gI Y.1 22 0 j = nI (o j) := (hR.k j hj).1.trans eoj
      have step : ∀ X1 t1, OC Y X1 t1 → t1.length ≤ 10 * j + 3 → t1 = (if j = 0 then T j else T j ++ [32, 62, 32]) → Ok (fn_150_J50_d1 (nI j) (gI X.1 22 0 (ix (nI j))) X1) (QL (fun s : Int32 × Sm => s.1 = nI (j + 1) ∧ OC Y s.2 (T (j + 1))) (fun x => ∃ Z, x = (nI (T P.1).length, Z) ∧ OC Y Z (T P.1))) := fun X1 t1 h1 hl1 et => by
        have x22 : gI X.1 22 0 (ix (nI j)) = nI (o j) := by rw [ix_nI (by omega), (hX.1.2.1 22 0 (by omega) (by omega)).1, e22]
        have x6 : gJ X1.1 6 (X1.2 0) (o j) = nL (n256 (nm (o j))) := by rw [(h1.1.2.1 6 _ (by omega) (by omega)).2, h1.1.1]; exact ew
        obtain ⟨X2, eX2, h2⟩ := c_160 h1 hw (by omega)
        have l2 : (t1 ++ lw (nm (o j))).length ≤ 10 * j + 9 := by
          have := hw.2.1
          rw [List.length_append]
          unfold lw
          rw [List.length_map]
          omega
        have c74 := c_74 (Y := X2) (n := 0) (k := o j) (r := gI Y.1 52 0) (fun y hy => by rw [(h2.1.2.1 21 0 (by omega) (by omega)).1]; exact hR.a y hy) (by omega)
        unfold fn_150_J50_d1
        rw [x22, ck_in (by omega) (by omega), ix_nI (by omega), x6, eX2, bd_t, c74, bd_t, bI_0]
        cases hv : hasS (gI Y.1 52 0 4) (nI (o j)) with
        | false =>
          refine ⟨.inl (nI (j + 1), X2), by rw [cnd_f, nI_add], rfl, ?_⟩
          show OC Y X2 (T (j + 1))
          rw [hTs, hv, ← et, if_neg (by decide), List.append_nil]
          exact h2
        | true =>
          obtain ⟨X3, eX3, h3⟩ := c_161 (n := 42) h2 (by omega) (by omega)
          refine ⟨.inl (nI (j + 1), X3), by rw [cnd_t, eX3, bd_t, nI_add], rfl, ?_⟩
          show OC Y X3 (T (j + 1))
          rw [hTs, hv, ← et, if_pos rfl]
          exact h3
      simp only [fn_150_L7]
      have x5 : gI X.1 5 (X.2 0) 0 = nI P.1 := by rw [hX.1.1, (hX.1.2.1 5 _ (by omega) (by omega)).1]; exact h.cp.1.1
      rw [x5, iteI_le_f hj (by omega), ck_in (by omega) (by omega)]
      by_cases c : j = 0
      · rw [iteI_le_t (show j ≤ 0 by omega) (by omega)]
        exact step X (T j) hX (by omega) (if_pos c).symm
      · rw [iteI_le_f (show 0 < j by omega) (by omega)]
        obtain ⟨Z1, e1, h1⟩ := c_161 (n := 32) hX (by omega) (by omega)
        have l1 : (T j ++ [32]).length = (T j).length + 1 := by rw [List.length_append]; rfl
        obtain ⟨Z2, e2, h2⟩ := c_161 (n := 62) h1 (by omega) (by omega)
        have l2 : (T j ++ [32] ++ [62]).length = (T j).length + 2 := by rw [List.length_append, l1]; rfl
        obtain ⟨Z3, e3, h3⟩ := c_161 (n := 32) h2 (by omega) (by omega)
        have l3 : (T j ++ [32] ++ [62] ++ [32]).length = (T j).length + 3 := by rw [List.length_append, l2]; rfl
        rw [e1, bd_t, e2, bd_t, e3, bd_t]
        refine step Z3 _ h3 (by omega) ?_
        rw [if_neg c, List.append_assoc, List.append_assoc]
        rfl
    · rintro ⟨l1, X⟩ ⟨E, hX⟩
      have E : l1 = nI P.1 := E
      subst E
      have hX : OC Y X (T P.1) := hX
      have x5 : gI X.1 5 (X.2 0) 0 = nI P.1 := by rw [hX.1.1, (hX.1.2.1 5 _ (by omega) (by omega)).1]; exact h.cp.1.1
      refine ⟨.inr (nI (T P.1).length, X), ?_, X, rfl, hX⟩
      simp only [fn_150_L7]
      rw [x5, iteI_le_t (Nat.le_refl _) (by omega), hX.2.1]
    · refine ⟨rfl, ⟨rfl, fun k i hk _ => ⟨by rw [gI_sIk hk], rfl⟩, fun x hx => ?_, fun i => ⟨rfl, rfl⟩⟩, ?_, fun j hj => ?_⟩
      · show gI (sI Y 0 0 3 (nI 0)).1 0 0 x = _
        rw [gI_sIv, upd_ne hx]
      · show gI (sI Y 0 0 3 (nI 0)).1 0 0 3 = _
        rw [gI_sIv, upd_at, hT0]
        rfl
      · rw [hT0] at hj
        exact absurd hj (Nat.not_lt_zero _)
  have key2 : ∀ W, OC Y W (T P.1) → ∃ Z, fn_298 W = some (nI (T P.1).length, Z) ∧ OM (sI W 48 0 0 (nI 0)) Z (T P.1) := fun W hW => by
    have w52 : gI W.1 52 0 = gI Y.1 52 0 := (hW.1.2.1 52 0 (by omega) (by omega)).1
    have w50 : gJ W.1 50 0 = gJ Y.1 50 0 := (hW.1.2.1 50 0 (by omega) (by omega)).2
    have w48 : ∀ x, gI W.1 48 0 x = gI Y.1 48 0 x := fun x => by rw [(hW.1.2.1 48 0 (by omega) (by omega)).1]
    generalize hW1 : sI W 48 0 0 (nI 0) = W1
    have v52 : gI W1.1 52 0 = gI Y.1 52 0 := by rw [← hW1, gI_sIk (by omega)]; exact w52
    have v50 : gJ W1.1 50 0 = gJ Y.1 50 0 := by rw [← hW1]; exact w50
    have v1 : gI W1.1 48 0 1 = nI P.1 := by rw [← hW1, gI_sIv, upd_ne (by omega), w48]; exact h.1.1.1
    have key := Ok_lp (F := fun s => fn_298_L12 s.1 s.2) (Q := fun x => ∃ Z, x = (nI (T P.1).length, Z) ∧ OM W1 Z (T P.1)) (fun j s => s.1 = nI j ∧ OM W1 s.2 (T j)) P.1 (N := FU) (FU_lt (by omega)) (s := (nI 0, sI W1 48 0 41 (nI 0))) ?_ ?_ ?_
    · obtain ⟨x, ex, Z, rfl, hZ⟩ := key
      refine ⟨Z, ?_, hZ⟩
      unfold fn_298
      rw [wr_t, hW1, wr_t, ex]
    · rintro j ⟨l1, X⟩ hj ⟨E, hX⟩
      have E : l1 = nI j := E
      subst E
      have hX : OM W1 X (T j) := hX
      have hl := hlen j (by omega)
      obtain ⟨hoj, eoj⟩ := ho j hj
      obtain ⟨hw, _, ew⟩ := hn (o j) hoj
      have step : ∀ X1 t1, OM W1 X1 t1 → t1.length ≤ 10 * j + 3 → t1 = (if j = 0 then T j else T j ++ [32, 62, 32]) → Ok (fn_298_J42_d1 (nI j) X1) (QL (fun s : Int32 × Sm => s.1 = nI (j + 1) ∧ OM W1 s.2 (T (j + 1))) (fun x => ∃ Z, x = (nI (T P.1).length, Z) ∧ OM W1 Z (T P.1))) := fun X1 t1 h1 hl1 et => by
        have x52 : gI X1.1 52 0 = gI Y.1 52 0 := (h1.1.2.1 52 0 (by omega) (by omega)).1.trans v52
        have x50 : gJ X1.1 50 0 (o j) = nL (n32 (nm (o j))) := by rw [(h1.1.2.1 50 0 (by omega) (by omega)).2, v50]; exact ew
        obtain ⟨X2, eX2, h2⟩ := r_nm h1 hw (by omega)
        have l2 : (t1 ++ lw (nm (o j))).length ≤ 10 * j + 9 := by
          have := hw.2.1
          rw [List.length_append]
          unfold lw
          rw [List.length_map]
          omega
        have y52 : gI X2.1 52 0 = gI Y.1 52 0 := (h2.1.2.1 52 0 (by omega) (by omega)).1.trans v52
        unfold fn_298_J42_d1
        rw [nI_add, ck_in (by omega) (by omega), ix_nI (by omega), x52, eoj, ck_in (by omega) (by omega), ix_nI (by omega), x50, eX2, bd_t, y52, eoj, r_has, bd_t, bI_0]
        cases hv : hasS (gI Y.1 52 0 4) (nI (o j)) with
        | false =>
          refine ⟨.inl (nI (j + 1), X2), by rw [cnd_f, nI_add], rfl, ?_⟩
          show OM W1 X2 (T (j + 1))
          rw [hTs, hv, ← et, if_neg (by decide), List.append_nil]
          exact h2
        | true =>
          obtain ⟨X3, eX3, h3⟩ := r_296 (n := 42) h2 (by omega) (by omega)
          refine ⟨.inl (nI (j + 1), X3), by rw [cnd_t, eX3, bd_t, nI_add], rfl, ?_⟩
          show OM W1 X3 (T (j + 1))
          rw [hTs, hv, ← et, if_pos rfl]
          exact h3
      simp only [fn_298_L12]
      have x1 : gI X.1 48 0 1 = nI P.1 := (hX.1.2.2.1 1 (by omega)).trans v1
      rw [x1, iteI_le_f hj (by omega)]
      by_cases c : j = 0
      · rw [iteI_le_t (show j ≤ 0 by omega) (by omega)]
        exact step X (T j) hX (by omega) (if_pos c).symm
      · rw [iteI_le_f (show 0 < j by omega) (by omega)]
        obtain ⟨Z1, e1, h1⟩ := r_296 (n := 32) hX (by omega) (by omega)
        have l1 : (T j ++ [32]).length = (T j).length + 1 := by rw [List.length_append]; rfl
        obtain ⟨Z2, e2, h2⟩ := r_296 (n := 62) h1 (by omega) (by omega)
        have l2 : (T j ++ [32] ++ [62]).length = (T j).length + 2 := by rw [List.length_append, l1]; rfl
        obtain ⟨Z3, e3, h3⟩ := r_296 (n := 32) h2 (by omega) (by omega)
        have l3 : (T j ++ [32] ++ [62] ++ [32]).length = (T j).length + 3 := by rw [List.length_append, l2]; rfl
        rw [e1, bd_t, e2, bd_t, e3, bd_t]
        refine step Z3 _ h3 (by omega) ?_
        rw [if_neg c, List.append_assoc, List.append_assoc]
        rfl
    · rintro ⟨l1, X⟩ ⟨E, hX⟩
      have E : l1 = nI P.1 := E
      subst E
      have hX : OM W1 X (T P.1) := hX
      have x1 : gI X.1 48 0 1 = nI P.1 := (hX.1.2.2.1 1 (by omega)).trans v1
      refine ⟨.inr (nI (T P.1).length, X), ?_, X, rfl, hX⟩
      simp only [fn_298_L12]
      rw [x1, iteI_le_t (Nat.le_refl _) (by omega), hX.2.1]
    · refine ⟨rfl, ⟨rfl, fun k i hk _ => ⟨by rw [gI_sIk hk], rfl⟩, fun x hx => ?_, fun i => ⟨rfl, rfl⟩⟩, ?_, fun j hj => ?_⟩
      · show gI (sI W1 48 0 41 (nI 0)).1 48 0 x = _
        rw [gI_sIv, upd_ne hx]
      · show gI (sI W1 48 0 41 (nI 0)).1 48 0 41 = _
        rw [gI_sIv, upd_at, hT0]
        rfl
      · rw [hT0] at hj
        exact absurd hj (Nat.not_lt_zero _)
  obtain ⟨Z1, e150, hZ1⟩ := key1
  obtain ⟨Z2, e298, hZ2⟩ := key2 Z1 hZ1
  have hTl := hlen P.1 (Nat.le_refl _)
  have g1 : ∀ k i, ¬ k ∈ [0, 1, 2, 20, 48, 60, 65] → gI Z2.1 k i = gI Y.1 k i ∧ gJ Z2.1 k i = gJ Y.1 k i := fun k i hk => by
    simp only [List.mem_cons, List.mem_nil_iff, or_false, not_or] at hk
    have a := hZ2.1.2.1 k i (by omega) (by omega)
    have d := hZ1.1.2.1 k i (by omega) (by omega)
    exact ⟨(a.1.trans (by rw [gI_sIk (by omega)])).trans d.1, a.2.trans d.2⟩
  have g2 : ∀ k i, k ∈ [1, 2, 60] → gI Z2.1 k i = gI Y.1 k i := fun k i hk => by
    simp only [List.mem_cons, List.mem_nil_iff, or_false] at hk
    have a := hZ2.1.2.1 k i (by omega) (by omega)
    have d := hZ1.1.2.1 k i (by omega) (by omega)
    exact (a.1.trans (by rw [gI_sIk (by omega)])).trans d.1
  have g48 : ∀ x, x ≠ 0 → x ≠ 41 → gI Z2.1 48 0 x = gI Y.1 48 0 x := fun x h0 h41 => by
    rw [hZ2.1.2.2.1 x h41, gI_sIv, upd_ne h0, (hZ1.1.2.1 48 0 (by omega) (by omega)).1]
  have g0 : ∀ x, gI Z2.1 0 0 x = gI Z1.1 0 0 x := fun x => by
    rw [(hZ2.1.2.1 0 0 (by omega) (by omega)).1, gI_sIk (by omega)]
  refine ⟨_, Z1, Z2, e150, e298, funext fun i => (hZ1.1.2.1 68 i (by omega) (by omega)).1, funext fun i => (g1 68 i (by decide)).1, P, tu, ro, u, pos, b, ?_⟩
  refine R6.up (c := c) (c' := c + 1) ?_ (by omega)
  refine h.io (hZ2.1.1.trans hZ1.1.1) g1 ?_ (fun x hx => g48 x (by omega) (by omega)) ⟨?_, ?_, (T P.1).length, by omega, ?_, hZ2.2.1, fun j hj => ?_⟩
  · rw [g0]; exact hZ1.1.2.2.1 11 (by omega)
  · obtain ⟨L, hL, i1, i2, i3⟩ := hII
    refine ⟨L, hL, by rw [g2 1 0 (by decide)]; exact i1, (g48 23 (by omega) (by omega)).trans i2, fun j hj => ?_⟩
    rw [g2 2 0 (by decide), g2 60 0 (by decide)]
    exact i3 j hj
  · unfold IoE
    rw [g0, g0, hZ1.1.2.2.1 4 (by omega), hZ1.1.2.2.1 5 (by omega), g48 31 (by omega) (by omega), g48 32 (by omega) (by omega)]
    exact hE
  · rw [g0]; exact hZ1.2.1
  · have e20 : gI Z2.1 20 0 j = gI Z1.1 20 0 j := by rw [(hZ2.1.2.1 20 0 (by omega) (by omega)).1, gI_sIk (by omega)]
    have lo : (T P.1).getD j 0 < 128 := hlo P.1 (Nat.le_refl _) _ (by
      rw [List.getD_eq_getElem?_getD, List.getElem?_eq_getElem hj]
      exact List.getElem_mem _)
    rw [e20, hZ1.2.2 j hj, hZ2.2.2 j hj, nI_and, Nat.mod_eq_of_lt (by omega)]
