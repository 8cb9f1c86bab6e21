/-! where the law begins: behind both constructors both sides are related -/
/-- the class's setup 1 holds the first kind and the first asker, all else of it is fresh -/
def StX (X : Sm) : Prop := (X.2 0 = 1 ∧ X.2 1 = 2) ∧ (gI X.1 5 1 0 = nI 1 ∧ gI X.1 5 1 3 = nI 1 ∧ gI X.1 5 1 7 = nI 0) ∧ (gJ X.1 6 1 0 = nL 97 ∧ gI X.1 7 1 0 = nI 0 ∧ gJ X.1 8 1 0 = nL 97 ∧ gI X.1 9 1 0 = nI 0 ∧ gI X.1 10 1 0 = nI 1) ∧ (∀ j, j < 5 → gI X.1 11 1 j = nI (stD j)) ∧ (gI X.1 12 1 1 = nI 0 ∧ gI X.1 12 1 2 = (-1 : Int32)) ∧ gI X.1 3 0 2 = nI 0 ∧ (gI X.1 0 0 3 = nI 0 ∧ gI X.1 0 0 4 = nI 0 ∧ gI X.1 0 0 5 = (-1 : Int32) ∧ gI X.1 0 0 11 = nI 0 ∧ gI X.1 1 0 1 = nI 0) ∧ gI X.1 37 0 1 = nI 0 ∧ gI X.1 37 0 2 = nI 0
/-- the model's draft holds the same -/
def StW (W : Sm) : Prop := (gI W.1 48 0 33 = nI 1 ∧ gI W.1 48 0 34 = nI 1 ∧ gI W.1 48 0 35 = nI 0) ∧ (gJ W.1 63 0 0 = nL 1 ∧ gJ W.1 64 0 0 = nL 1 ∧ gI W.1 62 0 0 = nI 1) ∧ (∀ j, j < 5 → gI W.1 61 0 j = nI (stD j)) ∧ (∀ q, q < 718 → q ≠ 8 → gI W.1 53 0 q = nI 0) ∧ gI W.1 53 0 8 = (-1 : Int32) ∧ gI W.1 48 0 19 = (-1 : Int32) ∧ gI W.1 48 0 23 = nI 0 ∧ gI W.1 48 0 31 = nI 0 ∧ gI W.1 48 0 32 = (-1 : Int32) ∧ gI W.1 48 0 41 = nI 0
theorem nm_a : NmR (nL 97) (nL 1) := ⟨[1], ⟨by decide, by decide, by decide⟩, rfl, rfl⟩
theorem Dr.st {X W : Sm} (h : StX X) (hw : StW W) : Dr X W 1 1 1 0 := by
  obtain ⟨_, ⟨a1, a2, a3⟩, ⟨b1, b2, b3, b4, b5⟩, c1, ⟨d1, d2⟩, e1, _⟩ := h
  obtain ⟨⟨w1, w2, w3⟩, ⟨v1, v2, v3⟩, u1, z1, z2, _⟩ := hw
  refine ⟨by omega, ⟨a1, a2, w1, w2⟩, fun k hk => ?_, fun a ha => ?_, fun j hj => ?_, ⟨⟨d1, d2, z1 9 (by omega) (by omega), z1 6 (by omega) (by omega)⟩, fun j hj => absurd hj (Nat.not_lt_zero _)⟩, ⟨fun q hq => ?_, z2, fun q h1 h2 => z1 q (by omega) (by omega), fun j hj => z1 _ (by omega) (by omega), fun k _ hk => z1 _ (by omega) (by omega)⟩, ⟨0, by omega, a3, z1 1 (by omega) (by omega)⟩, 0, by omega, e1, w3⟩
  · have : k = 0 := by omega
    subst this
    rw [b1, v1]
    exact ⟨nm_a, 0, by omega, b2, z1 15 (by omega) (by omega)⟩
  · have : a = 0 := by omega
    subst this
    rw [b3, v2]
    exact ⟨nm_a, ⟨0, by omega, b4, z1 20 (by omega) (by omega)⟩, 1, by omega, by omega, b5, v3⟩
  · obtain ⟨s1, s2⟩ := stD_b j hj
    exact ⟨stD j, s1, s2, c1 j hj, u1 j hj⟩
  · simp only [List.mem_cons, List.mem_nil_iff, or_false] at hq
    exact z1 q (by omega) (by omega)
theorem st_dim (X : Sm) : 0 < (drP X 1 1 1).1 ∧ (drP X 1 1 1).1 ≤ 5 ∧ 0 < (drP X 1 1 1).2.1 ∧ (drP X 1 1 1).2.1 ≤ 8 := (by decide : 0 < 1 ∧ 1 ≤ 5 ∧ 0 < 1 ∧ 1 ≤ 8)
theorem c_begin {X : Sm} (h : StX X) : ∃ T, fn_71 0 1 X = some ((), T) ∧ Fr (S2 0) (sG X 3 1) T := by
  obtain ⟨W, hW⟩ : ∃ W : Sm, StW W := by
    refine ⟨sJ (sJ (sF (sF (sF (sF X 62 0 (fun _ => nI 1)) 61 0 (fun j => nI (stD j))) 53 0 (fun q => if q = 8 then (-1 : Int32) else nI 0)) 48 0 (fun q => if q = 33 ∨ q = 34 then nI 1 else if q = 19 ∨ q = 32 then (-1 : Int32) else nI 0)) 63 0 0 (nL 1)) 64 0 0 (nL 1), ?_⟩
    refine ⟨⟨?_, ?_, ?_⟩, ⟨?_, ?_, ?_⟩, fun j hj => ?_, fun q hq h8 => ?_, ?_, ?_, ?_, ?_, ?_, ?_⟩
    all_goals (try rw [gI_sJ, gI_sJ, gI_sFs]; rfl)
    · rw [gJ_sJ, if_neg (by decide), gJ_sJ, if_pos ⟨rfl, rfl, rfl⟩]
    · rw [gJ_sJ, if_pos ⟨rfl, rfl, rfl⟩]
    · rw [gI_sJ, gI_sJ, gI_sFk (by omega), gI_sFk (by omega), gI_sFk (by omega), gI_sFs]
    · rw [gI_sJ, gI_sJ, gI_sFk (by omega), gI_sFk (by omega), gI_sFs]
    · rw [gI_sJ, gI_sJ, gI_sFk (by omega), gI_sFs, if_neg h8]
    · rw [gI_sJ, gI_sJ, gI_sFk (by omega), gI_sFs, if_pos rfl]
  have D := Dr.st h hW
  obtain ⟨T, e, f, _⟩ := c_71 (X := X) (P := drP X 1 1 1) (st_dim X) (by omega) (by omega) (D.rw (g := fun _ => nI 0) (fun _ _ => rfl))
  exact ⟨T, e, f⟩
theorem rr_start {X T W : Sm} (h : StX X) (e71 : fn_71 0 1 X = some ((), T)) (h2 : ∀ a, a < 1000 → W.2 a = T.2 a) (hk : ∀ k i, k < 48 → gI W.1 k i = gI T.1 k i ∧ gJ W.1 k i = gJ T.1 k i) (hw : StW W) (h65 : gI W.1 48 0 41 = nI 0) : ∃ Z, fn_269 W = some ((), Z) ∧ RR Z 0 := by
  have D := Dr.st h hw
  obtain ⟨⟨s0, s1⟩, ⟨a1, a2, a3⟩, ⟨b1, b2, b3, b4, b5⟩, c1, ⟨d1, d2⟩, e1, ⟨o3, o4, o5, o11, i1⟩, p1, p2⟩ := h
  obtain ⟨⟨w1, w2, w3⟩, ⟨v1, v2, v3⟩, u1, z1, z2, y19, y23, y31, y32, y41⟩ := hw
  obtain ⟨Zr, e269, ⟨t1, t2, t3⟩, ⟨m1, m2, m3, m17, m18⟩, m50, m51, m52⟩ := r_269 (W := W) (C := 1) (A := 1) (by omega) (by omega) w1 w2
  have hP3 : 0 < (drP X 1 1 1).1 ∧ (drP X 1 1 1).1 ≤ 5 ∧ 0 < (drP X 1 1 1).2.1 ∧ (drP X 1 1 1).2.1 ≤ 8 := st_dim X
  obtain ⟨T', e71', f71, cr⟩ := c_71 (X := X) hP3 (by omega) (by omega) (D.rw (g := gI W.1 52 0) (fun _ _ => rfl))
  have eT : T' = T := (Prod.mk.inj (Option.some.inj (e71'.symm.trans e71))).2
  subst eT
  obtain ⟨gr, an⟩ := D.gr (g := gI W.1 52 0) (by omega) (by omega)
  have e52 : gI Zr.1 52 0 = drR W 1 1 (gI W.1 52 0) := m52
  have g2 : ∀ a, a < 1000 → Zr.2 a = T'.2 a := fun a ha => (congrFun t1 a).trans (h2 a ha)
  have gk : ∀ k i, k < 48 → gI Zr.1 k i = gI T'.1 k i ∧ gJ Zr.1 k i = gJ T'.1 k i := fun k i hk' => by
    have a := t2 k i (by simp only [List.mem_cons, List.mem_nil_iff, or_false]; omega)
    have b := hk k i hk'
    exact ⟨a.1.trans b.1, a.2.trans b.2⟩
  have nS : ∀ {k i : Nat}, ¬ k ∈ [12, 14, 15, 16, 17, 18, 19, 21, 22, 23, 24, 25, 27, 29, 30, 31, 32, 33, 34, 35, 36] → ¬ S2 0 k i := fun hk q => by
    unfold S2 at q
    simp only [List.mem_cons, List.mem_nil_iff, or_false] at *
    omega
  have gX : ∀ k i, k < 48 → ¬ k ∈ [12, 14, 15, 16, 17, 18, 19, 21, 22, 23, 24, 25, 27, 29, 30, 31, 32, 33, 34, 35, 36] → gI Zr.1 k i = gI X.1 k i ∧ gJ Zr.1 k i = gJ X.1 k i := fun k i h1 h2 => by
    have a := gk k i h1
    have b := f71.2 k i (nS h2)
    exact ⟨(a.1.trans b.1).trans (by rw [gI_sG]), (a.2.trans b.2).trans (by rw [gJ_sG])⟩
  have r2 : ∀ a, a ≠ 3 → a < 1000 → Zr.2 a = X.2 a := fun a ha h9 => by rw [g2 a h9, f71.1, g_sG, ug_ne ha]
  have r3 : Zr.2 3 = 1 := by rw [g2 3 (by omega), f71.1, g_sG, ug_at]
  have crZ : CR Zr 0 (drP X 1 1 1) (gI Zr.1 52 0) 0 0 := by
    rw [e52]
    refine cr.frk hP3.2.2.2 (g2 3 (by omega)) (fun k i hk' => ?_) ?_
    · have h48 : k < 48 := by
        unfold CRk S2 at hk'
        simp only [List.mem_cons, List.mem_nil_iff, or_false] at hk'
        omega
      exact (gk k i h48).1
    · exact (gk 25 0 (by omega)).2
  refine ⟨Zr, e269, drP X 1 1 1, 3, 6, 0, 0, false, ⟨⟨m1, m2, hP3, fun j hj => ?_, fun a ha => ?_⟩, fun a ha => ?_, ⟨c1 0 (by omega), c1 1 (by omega), by omega, by omega⟩, ?_, ⟨?_, ?_, ?_⟩, ⟨10, by omega, c1 2 (by omega)⟩, 0, by omega, c1 3 (by omega)⟩, ⟨?_, 0, 0, 0, 0, crZ, by rw [e52]; exact gr, by omega, by omega, by rw [e52]; exact an⟩, ⟨by omega, ?_, ?_, m17, fun j hj => absurd hj (Nat.not_lt_zero _)⟩, ⟨?_, m18, fun q => absurd q (by decide)⟩, ⟨⟨0, by omega, ?_, ?_, fun j hj => absurd hj (Nat.not_lt_zero _)⟩, ⟨?_, ?_⟩, 0, by omega, ?_, ?_, fun j hj => absurd hj (Nat.not_lt_zero _)⟩, ⟨fun k hk' => ?_, fun a ha => ?_⟩⟩
  · rw [m3 j hj, u1 j hj]
    exact (c1 j hj).symm
  · have ha : a < 1 := ha
    have : a = 0 := by omega
    subst this
    rw [(m51 0 (by omega)).2, v3]
    exact b5.symm
  · have ha : a < 1 := ha
    have : a = 0 := by omega
    subst this
    exact ⟨1, by omega, b5⟩
  · rw [t3 19 (by omega) (by omega) (by omega)]; exact y19
  · rw [r2 0 (by omega) (by omega), r2 1 (by omega) (by omega), s0, s1]; decide
  · rw [r2 0 (by omega) (by omega), s0]; decide
  · rw [r2 1 (by omega) (by omega), s1]; decide
  · rw [r2 0 (by omega) (by omega), s0]; exact r3
  · rw [(gX 37 0 (by omega) (by decide)).1]; exact p1
  · rw [(gX 37 0 (by omega) (by decide)).1]; exact p2
  · rw [(gX 0 0 (by omega) (by decide)).1]; exact o11
  · rw [(gX 1 0 (by omega) (by decide)).1]; exact i1
  · rw [t3 23 (by omega) (by omega) (by omega)]; exact y23
  · rw [(gX 0 0 (by omega) (by decide)).1, o4, t3 31 (by omega) (by omega) (by omega), y31]
  · rw [(gX 0 0 (by omega) (by decide)).1, o5, t3 32 (by omega) (by omega) (by omega), y32]
  · rw [(gX 0 0 (by omega) (by decide)).1]; exact o3
  · rw [t3 41 (by omega) (by omega) (by omega)]; exact h65
  · have hk' : k < 1 := hk'
    have : k = 0 := by omega
    subst this
    rw [r2 0 (by omega) (by omega), s0, (gX 6 1 (by omega) (by decide)).2, b1, m50 0 (by omega), v1]
    exact nm_a
  · have ha : a < 1 := ha
    have : a = 0 := by omega
    subst this
    rw [r2 0 (by omega) (by omega), s0, (gX 8 1 (by omega) (by decide)).2, b3, (m51 0 (by omega)).1, v2]
    exact nm_a
