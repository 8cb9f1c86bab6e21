/-! the reference takes its draft -/
theorem r_cp53_52 (Y : Sm) : fn_170_53_52 Y = some ((), sF Y 52 0 (cpy (gI Y.1 53 0) (gI Y.1 52 0))) := by
  unfold fn_170_53_52
  refine lp_run (fun j => (nI j, sF Y 52 0 (fun q => if q < j then gI Y.1 53 0 q else gI Y.1 52 0 q))) 718 (FU_lt (by omega)) (fun j hj => ?_) ?_ ?_
  · simp only [fn_170_53_52_L2, gI_o (show 53 ≠ 52 by omega)]
    simp (disch := omega) only [ck_in, ix_nI, pk_mul, nI_add, pk_sub, iteI_le_t, iteI_le_f, iteI_lt_t, iteI_lt_f, iteI_eq_t, iteI_eq_f, bd_t, wr_t, ite_m1_f, ite_m1_t, ↓reduceIte]
    rw [sI_s]
    congr 4
    funext q
    by_cases c : q = j
    · subst c
      rw [upd_at, if_pos (by omega)]
    · rw [upd_ne c]
      by_cases d : q < j
      · rw [if_pos d, if_pos (by omega)]
      · rw [if_neg d, if_neg (by omega)]
  · simp only [fn_170_53_52_L2]
    simp (disch := omega) only [ck_in, ix_nI, pk_mul, nI_add, pk_sub, iteI_le_t, iteI_le_f, iteI_lt_t, iteI_lt_f, iteI_eq_t, iteI_eq_f, bd_t, wr_t, ite_m1_f, ite_m1_t, ↓reduceIte]
    rfl
  · show _ = (nI 0, sF Y 52 0 (fun q => if q < 0 then gI Y.1 53 0 q else gI Y.1 52 0 q))
    have : (fun q => if q < 0 then gI Y.1 53 0 q else gI Y.1 52 0 q) = gI Y.1 52 0 := by
      funext q
      rw [if_neg (by omega)]
    rw [this, sF_self]
def blF (C j : Nat) (f : Nat → Int32) : Nat → Int32 := fun q => if 78 ≤ q ∧ q < 78 + 5 * j ∧ (q - 78) % 5 < C then nI ((q - 78) % 5) else f q
theorem r_269i {Y : Sm} {C a : Nat} {f : Nat → Int32} (hC : C ≤ 5) (ha : a < 8) (h1 : gI Y.1 48 0 1 = nI C) : lp (fun s => fn_269_L183_d1 (nI a) s.1 s.2) FU (nI 0, sF Y 52 0 f) = some (.inl (nI (a + 1), sF Y 52 0 (fun q => if 78 + 5 * a ≤ q ∧ q < 78 + 5 * a + C then nI (q - (78 + 5 * a)) else f q))) := by
  refine lp_run (fun j => (nI j, sF Y 52 0 (fun q => if 78 + 5 * a ≤ q ∧ q < 78 + 5 * a + j then nI (q - (78 + 5 * a)) else f q))) C (FU_lt (by omega)) (fun j hj => ?_) ?_ ?_
  · simp only [fn_269_L183_d1]
    rw [gI_sFk (by omega), h1, iteI_le_f hj (by omega), pk_mul, nI_add, nI_add, ck_in (by omega) (by omega), ix_nI (by omega), wr_t, sI_s, nI_add]
    congr 4
    funext q
    by_cases c : q = 78 + 5 * a + j
    · rw [c, upd_at, if_pos (by omega), show 78 + 5 * a + j - (78 + 5 * a) = j by omega]
    · rw [upd_ne c]
      by_cases d : 78 + 5 * a ≤ q ∧ q < 78 + 5 * a + j
      · rw [if_pos d, if_pos (by omega)]
      · rw [if_neg d, if_neg (by omega)]
  · simp only [fn_269_L183_d1]
    rw [gI_sFk (by omega), h1, iteI_le_t (Nat.le_refl _) (by omega), nI_add]
  · show _ = (nI 0, sF Y 52 0 (fun q => if 78 + 5 * a ≤ q ∧ q < 78 + 5 * a + 0 then nI (q - (78 + 5 * a)) else f q))
    have : (fun q => if 78 + 5 * a ≤ q ∧ q < 78 + 5 * a + 0 then nI (q - (78 + 5 * a)) else f q) = f := funext fun q => if_neg (by omega)
    rw [this]
theorem r_173 {Y : Sm} {C A : Nat} {f : Nat → Int32} (hC : C ≤ 5) (hA : A ≤ 8) (h1 : gI Y.1 48 0 1 = nI C) (h2 : gI Y.1 48 0 2 = nI A) : lp (fun s => fn_269_L173 s.1 s.2) FU (nI 0, sF Y 52 0 f) = some ((), sI (sI (sF Y 52 0 (blF C A f)) 48 0 17 (nI 0)) 48 0 18 (nI 0)) := by
  refine lp_run (fun j => (nI j, sF Y 52 0 (blF C j f))) A (FU_lt (by omega)) (fun j hj => ?_) ?_ ?_
  · simp only [fn_269_L173]
    rw [gI_sFk (by omega), h2, iteI_le_f hj (by omega), r_269i hC (by omega) h1]
    congr 4
    funext q
    unfold blF
    by_cases c : 78 + 5 * j ≤ q ∧ q < 78 + 5 * j + C
    · rw [if_pos c, if_pos (by omega), show (q - 78) % 5 = q - (78 + 5 * j) by omega]
    · rw [if_neg c]
      by_cases d : 78 ≤ q ∧ q < 78 + 5 * j ∧ (q - 78) % 5 < C
      · rw [if_pos d, if_pos (by omega)]
      · rw [if_neg d, if_neg (by omega)]
  · simp only [fn_269_L173]
    rw [gI_sFk (by omega), h2, iteI_le_t (Nat.le_refl _) (by omega), wr_t, wr_t]
  · show _ = (nI 0, sF Y 52 0 (blF C 0 f))
    have : blF C 0 f = f := funext fun q => if_neg (by omega)
    rw [this]
def odF (C : Nat) (f : Nat → Int32) : Nat → Int32 := fun q => if 10 ≤ q ∧ q < 10 + C then nI (q - 10) else f q
theorem r_269 {W : Sm} {C A : Nat} (hC : C ≤ 5) (hA : A ≤ 8) (e33 : gI W.1 48 0 33 = nI C) (e34 : gI W.1 48 0 34 = nI A) : ∃ Z, fn_269 W = some ((), Z) ∧ (Z.2 = W.2 ∧ (∀ k i, ¬ k ∈ [48, 49, 50, 51, 52] → gI Z.1 k i = gI W.1 k i ∧ gJ Z.1 k i = gJ W.1 k i) ∧ ∀ x, ¬ (1 ≤ x ∧ x ≤ 7) → x ≠ 17 → x ≠ 18 → gI Z.1 48 0 x = gI W.1 48 0 x) ∧ (gI Z.1 48 0 1 = nI C ∧ gI Z.1 48 0 2 = nI A ∧ (∀ j, j < 5 → gI Z.1 48 0 (3 + j) = gI W.1 61 0 j) ∧ gI Z.1 48 0 17 = nI 0 ∧ gI Z.1 48 0 18 = nI 0) ∧ (∀ k, k < C → gJ Z.1 50 0 k = gJ W.1 63 0 k) ∧ (∀ a, a < A → gJ Z.1 51 0 a = gJ W.1 64 0 a ∧ gI Z.1 49 0 a = gI W.1 62 0 a) ∧ gI Z.1 52 0 = blF C A (odF C (cpy (gI W.1 53 0) (gI W.1 52 0))) := by
  unfold fn_269
  have g34 : gI (sI W 48 0 1 (nI C)).1 48 0 34 = nI A := by rw [gI_sIv, upd_ne (by omega)]; exact e34
  rw [e33, wr_t, g34, wr_t]
  have o61 : ∀ (Y : Sm) x v, gI (sI Y 48 0 x v).1 61 0 = gI Y.1 61 0 := fun Y x v => by rw [gI_sIk (by omega)]
  simp only [wr_t, o61]
  generalize hV : sI (sI (sI (sI (sI (sI (sI W 48 0 1 (nI C)) 48 0 2 (nI A)) 48 0 3 (gI W.1 61 0 0)) 48 0 4 (gI W.1 61 0 1)) 48 0 5 (gI W.1 61 0 2)) 48 0 6 (gI W.1 61 0 3)) 48 0 7 (gI W.1 61 0 4) = V
  have v48 : ∀ k, k ≠ 48 → gI V.1 k = gI W.1 k := fun k hk => by rw [← hV, gI_sIk hk, gI_sIk hk, gI_sIk hk, gI_sIk hk, gI_sIk hk, gI_sIk hk, gI_sIk hk]
  have vj : gJ V.1 = gJ W.1 := by rw [← hV]; rfl
  have v2 : V.2 = W.2 := by rw [← hV]; rfl
  have v1 : gI V.1 48 0 1 = nI C ∧ gI V.1 48 0 2 = nI A := by
    rw [← hV]
    simp (disch := omega) only [gI_sIv, upd_ne, upd_at]
    exact ⟨trivial, trivial⟩
  have v3 : ∀ j, j < 5 → gI V.1 48 0 (3 + j) = gI W.1 61 0 j := fun j hj => by
    have hj' : j = 0 ∨ j = 1 ∨ j = 2 ∨ j = 3 ∨ j = 4 := by omega
    rw [← hV]
    simp (disch := omega) only [gI_sIv]
    rcases hj' with rfl | rfl | rfl | rfl | rfl <;> rfl
  have vo : ∀ x, ¬ (1 ≤ x ∧ x ≤ 7) → gI V.1 48 0 x = gI W.1 48 0 x := fun x hx => by
    rw [← hV]
    simp (disch := omega) only [gI_sIv, upd_ne]
  have k1 : ∃ Z, lp (fun s => fn_269_L68 s.1 s.2) FU (nI 0, V) = some (.inl Z) ∧ Fr (K0 [50]) V Z ∧ ∀ k, k < C → gJ Z.1 50 0 k = gJ W.1 63 0 k := by
    have key := Ok_lp (F := fun s => fn_269_L68 s.1 s.2) (Q := fun x => ∃ Z, x = .inl Z ∧ Fr (K0 [50]) V Z ∧ ∀ k, k < C → gJ Z.1 50 0 k = gJ W.1 63 0 k) (fun j s => s.1 = nI j ∧ Fr (K0 [50]) V s.2 ∧ ∀ k, k < j → gJ s.2.1 50 0 k = gJ W.1 63 0 k) C (N := FU) (FU_lt (by omega)) (s := (nI 0, V)) ?_ ?_ ?_
    · obtain ⟨x, ex, Z, rfl, hZ⟩ := key
      exact ⟨Z, ex, hZ⟩
    · rintro j ⟨l, X⟩ hj ⟨E, hF, h⟩
      have E : l = nI j := E
      subst E
      have hF : Fr (K0 [50]) V X := hF
      have x1 : gI X.1 48 0 1 = nI C := by rw [hF.gI (fun q => absurd q.2 (by decide))]; exact v1.1
      have x63 : gJ X.1 63 0 j = gJ W.1 63 0 j := by rw [(hF.2 63 0 (fun q => absurd q.2 (by decide))).2, vj]
      refine ⟨.inl (nI (j + 1), sJ X 50 0 j (gJ W.1 63 0 j)), ?_, rfl, hF.tr (Fr.sJ ⟨rfl, by decide⟩), fun k hk => ?_⟩
      · simp only [fn_269_L68]
        rw [x1, iteI_le_f hj (by omega), ck_in (by omega) (by omega), ix_nI (by omega), x63, wr_t, nI_add]
      · show gJ (sJ X 50 0 j (gJ W.1 63 0 j)).1 50 0 k = _
        rw [gJ_sJ]
        by_cases c : k = j
        · rw [if_pos ⟨rfl, rfl, c⟩, c]
        · rw [if_neg (fun q => c q.2.2)]; exact h k (by omega)
    · rintro ⟨l, X⟩ ⟨E, hF, h⟩
      have E : l = nI C := E
      subst E
      have hF : Fr (K0 [50]) V X := hF
      have x1 : gI X.1 48 0 1 = nI C := by rw [hF.gI (fun q => absurd q.2 (by decide))]; exact v1.1
      refine ⟨.inr (.inl X), ?_, X, rfl, hF, h⟩
      simp only [fn_269_L68]
      rw [x1, iteI_le_t (Nat.le_refl _) (by omega)]
    · exact ⟨rfl, Fr.rf, fun k hk => absurd hk (Nat.not_lt_zero _)⟩
  obtain ⟨Z1, e1, f1, h1⟩ := k1
  rw [e1, exd_l]
  unfold fn_269_J94
  have k2 : ∃ Z, lp (fun s => fn_269_L96 s.1 s.2) FU (nI 0, Z1) = some (.inl Z) ∧ Fr (K0 [49, 51]) Z1 Z ∧ ∀ a, a < A → gJ Z.1 51 0 a = gJ W.1 64 0 a ∧ gI Z.1 49 0 a = gI W.1 62 0 a := by
    have key := Ok_lp (F := fun s => fn_269_L96 s.1 s.2) (Q := fun x => ∃ Z, x = .inl Z ∧ Fr (K0 [49, 51]) Z1 Z ∧ ∀ a, a < A → gJ Z.1 51 0 a = gJ W.1 64 0 a ∧ gI Z.1 49 0 a = gI W.1 62 0 a) (fun j s => s.1 = nI j ∧ Fr (K0 [49, 51]) Z1 s.2 ∧ ∀ a, a < j → gJ s.2.1 51 0 a = gJ W.1 64 0 a ∧ gI s.2.1 49 0 a = gI W.1 62 0 a) A (N := FU) (FU_lt (by omega)) (s := (nI 0, Z1)) ?_ ?_ ?_
    · obtain ⟨x, ex, Z, rfl, hZ⟩ := key
      exact ⟨Z, ex, hZ⟩
    · rintro j ⟨l, X⟩ hj ⟨E, hF, h⟩
      have E : l = nI j := E
      subst E
      have hF : Fr (K0 [49, 51]) Z1 X := hF
      have x1 : gI X.1 48 0 2 = nI A := by rw [hF.gI (fun q => absurd q.2 (by decide)), f1.gI (fun q => absurd q.2 (by decide))]; exact v1.2
      have x64 : gJ X.1 64 0 j = gJ W.1 64 0 j := by rw [(hF.2 64 0 (fun q => absurd q.2 (by decide))).2, (f1.2 64 0 (fun q => absurd q.2 (by decide))).2, vj]
      have x62 : gI X.1 62 0 j = gI W.1 62 0 j := by rw [hF.gI (fun q => absurd q.2 (by decide)), f1.gI (fun q => absurd q.2 (by decide)), v48 62 (by omega)]
      refine ⟨.inl (nI (j + 1), sI (sJ X 51 0 j (gJ W.1 64 0 j)) 49 0 j (gI W.1 62 0 j)), ?_, rfl, hF.tr ((Fr.sJ ⟨rfl, by decide⟩).tr (Fr.sI ⟨rfl, by decide⟩)), fun k hk => ?_⟩
      · simp only [fn_269_L96]
        rw [x1, iteI_le_f hj (by omega), ck_in (by omega) (by omega), ix_nI (by omega), x64, wr_t, gI_sJ, x62, wr_t, nI_add]
      · show gJ (sI (sJ X 51 0 j (gJ W.1 64 0 j)) 49 0 j (gI W.1 62 0 j)).1 51 0 k = _ ∧ gI (sI (sJ X 51 0 j (gJ W.1 64 0 j)) 49 0 j (gI W.1 62 0 j)).1 49 0 k = _
        rw [gJ_sI, gJ_sJ, gI_sIv, gI_sJ]
        by_cases c : k = j
        · rw [if_pos ⟨rfl, rfl, c⟩, c, upd_at]
          exact ⟨rfl, rfl⟩
        · rw [if_neg (fun q => c q.2.2), upd_ne c]; exact h k (by omega)
    · rintro ⟨l, X⟩ ⟨E, hF, h⟩
      have E : l = nI A := E
      subst E
      have hF : Fr (K0 [49, 51]) Z1 X := hF
      have x1 : gI X.1 48 0 2 = nI A := by rw [hF.gI (fun q => absurd q.2 (by decide)), f1.gI (fun q => absurd q.2 (by decide))]; exact v1.2
      refine ⟨.inr (.inl X), ?_, X, rfl, hF, h⟩
      simp only [fn_269_L96]
      rw [x1, iteI_le_t (Nat.le_refl _) (by omega)]
    · exact ⟨rfl, Fr.rf, fun k hk => absurd hk (Nat.not_lt_zero _)⟩
  obtain ⟨Z2, e2, f2, h2⟩ := k2
  rw [e2, exd_l]
  unfold fn_269_J134
  have g12 : ∀ k i, ¬ k ∈ [49, 50, 51] → gI Z2.1 k i = gI V.1 k i ∧ gJ Z2.1 k i = gJ V.1 k i := fun k i hk => by
    simp only [List.mem_cons, List.mem_nil_iff, or_false, not_or] at hk
    have a := f2.2 k i (fun q => by have := q.2; simp only [List.mem_cons, List.mem_nil_iff, or_false] at this; omega)
    have b := f1.2 k i (fun q => by have := q.2; simp only [List.mem_cons, List.mem_nil_iff, or_false] at this; omega)
    exact ⟨a.1.trans b.1, a.2.trans b.2⟩
  have z48 : ∀ x, gI Z2.1 48 0 x = gI V.1 48 0 x := fun x => by rw [(g12 48 0 (by decide)).1]
  have e53 : cpy (gI Z2.1 53 0) (gI Z2.1 52 0) = cpy (gI W.1 53 0) (gI W.1 52 0) := by rw [(g12 53 0 (by decide)).1, (g12 52 0 (by decide)).1, v48 53 (by omega), v48 52 (by omega)]
  rw [r_cp53_52, bd_t, e53]
  have k3 : lp (fun s => fn_269_L147 s.1 s.2) FU (nI 0, sF Z2 52 0 (cpy (gI W.1 53 0) (gI W.1 52 0))) = some (.inl (sF Z2 52 0 (odF C (cpy (gI W.1 53 0) (gI W.1 52 0))))) := by
    generalize cpy (gI W.1 53 0) (gI W.1 52 0) = f
    refine lp_run (fun j => (nI j, sF Z2 52 0 (odF j f))) C (FU_lt (by omega)) (fun j hj => ?_) ?_ ?_
    · simp only [fn_269_L147]
      rw [gI_sFk (by omega), z48, v1.1, iteI_le_f hj (by omega), nI_add, ck_in (by omega) (by omega), ix_nI (by omega), wr_t, sI_s, nI_add]
      congr 4
      funext q
      unfold odF
      by_cases c : q = 10 + j
      · rw [c, upd_at, if_pos (by omega), show 10 + j - 10 = j by omega]
      · rw [upd_ne c]
        by_cases d : 10 ≤ q ∧ q < 10 + j
        · rw [if_pos d, if_pos (by omega)]
        · rw [if_neg d, if_neg (by omega)]
    · simp only [fn_269_L147]
      rw [gI_sFk (by omega), z48, v1.1, iteI_le_t (Nat.le_refl _) (by omega)]
    · show _ = (nI 0, sF Z2 52 0 (odF 0 f))
      have : odF 0 f = f := funext fun q => if_neg (by omega)
      rw [this]
  rw [k3, exd_l]
  unfold fn_269_J171
  rw [r_173 hC hA (by rw [z48]; exact v1.1) (by rw [z48]; exact v1.2)]
  generalize hT : sI (sI (sF Z2 52 0 (blF C A (odF C (cpy (gI W.1 53 0) (gI W.1 52 0))))) 48 0 17 (nI 0)) 48 0 18 (nI 0) = T
  have t48 : ∀ x, x ≠ 17 → x ≠ 18 → gI T.1 48 0 x = gI V.1 48 0 x := fun x h1 h2 => by
    rw [← hT, gI_sIv, upd_ne h2, gI_sIv, upd_ne h1, gI_sFk (by omega), z48]
  refine ⟨T, rfl, ⟨?_, fun k i hk => ?_, fun x h1 h2 h3 => ?_⟩, ⟨?_, ?_, fun j hj => ?_, ?_, ?_⟩, fun k hk => ?_, fun a ha => ?_, ?_⟩
  · rw [← hT]
    exact (f2.1.trans f1.1).trans v2
  · simp only [List.mem_cons, List.mem_nil_iff, or_false, not_or] at hk
    have a := g12 k i (by simp only [List.mem_cons, List.mem_nil_iff, or_false, not_or]; omega)
    rw [← hT, gI_sIk (by omega), gI_sIk (by omega), gI_sFk (by omega), gJ_sI, gJ_sI]
    refine ⟨a.1.trans (by rw [v48 k (by omega)]), ?_⟩
    show gJ Z2.1 k i = gJ W.1 k i
    rw [a.2, vj]
  · rw [t48 x h2 h3, vo x h1]
  · rw [t48 1 (by omega) (by omega)]; exact v1.1
  · rw [t48 2 (by omega) (by omega)]; exact v1.2
  · rw [t48 (3 + j) (by omega) (by omega)]; exact v3 j hj
  · rw [← hT, gI_sIv, upd_ne (by omega), gI_sIv, upd_at]
  · rw [← hT, gI_sIv, upd_at]
  · have : gJ T.1 50 0 k = gJ Z2.1 50 0 k := by rw [← hT]; rfl
    rw [this, (f2.2 50 0 (fun q => absurd q.2 (by decide))).2]
    exact h1 k hk
  · have j51 : gJ T.1 51 0 a = gJ Z2.1 51 0 a := by rw [← hT]; rfl
    have i49 : gI T.1 49 0 a = gI Z2.1 49 0 a := by rw [← hT, gI_sIk (by omega), gI_sIk (by omega), gI_sFk (by omega)]
    rw [j51, i49]
    exact h2 a ha
  · rw [← hT, gI_sIk (by omega), gI_sIk (by omega), gI_sFs]
