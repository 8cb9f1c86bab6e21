/-! the law from its entry -/
/-- bytes that are chars -/
def allb (T : List Int32) : Prop := ∀ x ∈ T, x = nI (ix x) ∧ ix x < 128
theorem allb_a {p q : List Int32} (h : allb p) (h2 : allb q) : allb (p ++ q) := fun x hx => by
  rcases List.mem_append.mp hx with z | z
  · exact h x z
  · exact h2 x z
theorem allb_t : ∀ j, j < txn → allb (txb j) := by
  unfold allb
  decide +kernel
theorem allb_d : ∀ v, v < 100 → allb (digs v) := by
  unfold allb
  decide +kernel
theorem allb_c {c : Nat} (h : c < 128) : allb [nI c] := fun x hx => by
  rw [List.mem_singleton.mp hx, ix_nI (by omega)]
  exact ⟨rfl, h⟩
theorem allb_cls {f : Nat → Nat} : ∀ n, n ≤ 5 → allb (clsT f n)
  | 0, _ => fun x hx => by cases hx
  | n + 1, h => by
    rw [cls_s]
    refine allb_a (allb_cls n (by omega)) ?_
    unfold cpc
    exact allb_a (allb_a (allb_a (allb_t 22 (by decide)) (allb_c (by omega))) (allb_t _ (mtx_len _).2)) (allb_c (by omega))
theorem allb_ask {l : List Int32} {c v : Nat → Nat} (hl : allb l) (hc : ∀ i, c i ≤ 30 ∧ v i < 10 ∧ 1 ≤ v i) : ∀ n, n ≤ 8 → allb (askT l c v n)
  | 0, _ => hl
  | n + 1, h => by
    rw [ask_s]
    refine allb_a (allb_ask hl hc n (by omega)) ?_
    have := hc n
    unfold apc
    exact allb_a (allb_a (allb_a (allb_a (allb_a (allb_a (allb_t 35 (by decide)) (allb_c (by omega))) (allb_t 36 (by decide))) (allb_d _ (by omega))) (allb_t 37 (by decide))) (allb_d _ (by omega))) (allb_c (by omega))
theorem allb_set {l : List Int32} {t a1 a2 a3 a4 a5 : Nat} (hl : allb l) (hP : PRS t a1 a2 a3 a4 a5) : allb (setT l t a1 a2 a3 a4 a5) := by
  obtain ⟨p0, p1, p2, p3, p4, p5⟩ := hP
  rw [setT_e]
  have hs : ∀ j a, j < txn → a < 100 → allb (spc j a) := fun j a hj ha => by
    unfold spc
    exact allb_a (allb_a (allb_a (allb_t j hj) (allb_c (by omega))) (allb_d a ha)) (allb_c (by omega))
  have ht : allb (tpc t) := by
    unfold tpc
    refine allb_a (allb_a (allb_a (allb_t 7 (by decide)) (allb_c (by omega))) ?_) (allb_c (by omega))
    by_cases c : t = 0
    · rw [if_pos c]; exact allb_t 10 (by decide)
    · rw [if_neg c]; exact allb_t 9 (by decide)
  exact allb_a (allb_a (allb_a (allb_a (allb_a (allb_a hl ht) (hs 11 a1 (by decide) (by omega))) (hs 12 a2 (by decide) (by omega))) (hs 13 a3 (by decide) (by omega))) (hs 14 a4 (by decide) (by omega))) (hs 15 a5 (by decide) (by omega))
theorem setT_len {l : List Int32} {t a1 a2 a3 a4 a5 : Nat} (hP : PRS t a1 a2 a3 a4 a5) : (setT l t a1 a2 a3 a4 a5).length ≤ l.length + 54 := by
  obtain ⟨p0, p1, p2, p3, p4, p5⟩ := hP
  have h := tlen.2
  have d1 : dgn a1 = 1 := if_pos (by omega)
  have d2 : dgn a2 = 1 := if_pos (by omega)
  have d3 := dgn_le a3
  have d4 := dgn_le a4
  have d5 : dgn a5 = 1 := if_pos (by omega)
  have e : (txb (if t = 0 then 10 else 9)).length ≤ 6 := by
    by_cases c : t = 0
    · rw [if_pos c]; omega
    · rw [if_neg c]; omega
  unfold setT
  simp only [List.length_append, List.length_cons, List.length_nil, digs_len]
  omega
theorem c_183 {L C A t a1 a2 a3 a4 a5 : Nat} {Y : Sm} {T : List Int32} {f c v : Nat → Nat} (hT : T = setT (askT (clsT f C) c v A) t a1 a2 a3 a4 a5) (hC : 0 < C ∧ C ≤ 5) (hA : 0 < A ∧ A ≤ 8) (hf : ∀ i, f i ≤ 3) (hc : ∀ i, c i ≤ 30 ∧ v i < 10 ∧ 1 ≤ v i) (hP : PRS t a1 a2 a3 a4 a5) (hS : ST Y T) (h10 : gI Y.1 1 0 1 = nI 0) (hd : Y.2 1 < 3) (h37 : gI Y.1 37 0 1 = nI 0) : ML L 12 40 183 [aR 0 0, aR 50 0] Y (fun w Z => w = some (aI (nI C)) ∧ ∃ P tu ro r, P.1 = C ∧ P.2.1 = A ∧ S6 Z P tu ro r 0 0 0 0 0 0) nX := by
  have hlC := clsT_len f C
  have hlA := askT_len (clsT f C) c v (fun i => (hc i).2.1) A
  have hlT := setT_len (l := askT (clsT f C) c v A) hP
  rw [← hT] at hlT
  have hb : allb T := by rw [hT]; exact allb_set (allb_ask (allb_cls C hC.2) hc A hA.2) hP
  have hch : ∀ q, q < T.length → Bt T q < 128 ∧ T.getD q 0 = nI (Bt T q) := fun q hq => by
    have hm : T.getD q 0 ∈ T := by
      rw [List.getD_eq_getElem?_getD, List.getElem?_eq_getElem hq]
      exact List.getElem_mem hq
    obtain ⟨b1, b2⟩ := hb _ hm
    exact ⟨b2, b1⟩
  refine ML_of [(0, aR 0 0), (1, aR 50 0)] ?_
  refine m_sg k183 2 (fun _ => rfl) trivial ?_
  refine m_xS k183 (n := 0) (As := [aR 0 0, aR 50 0]) (c_182f (ch := Bt T) (by omega) hch hS h10) nX_no rfl rfl (fun w Z h9 => ?_)
  obtain ⟨rfl, hK, z1, z2⟩ := h9
  refine m_sg k183 1 (fun _ => rfl) trivial ?_
  have hx : Tx Z T.length (Bt T) := ⟨by omega, z1, fun j hj => by
    obtain ⟨b1, b2⟩ := hch j hj
    refine ⟨by omega, ?_⟩
    rw [z2 j hj, b2, sb_lo b1]⟩
  have e21 : Z.2 1 = Y.2 1 := hK.2.2 1 (by omega)
  obtain ⟨P, tu, ro, r, Z2, q1, q2, q3, q4⟩ := p_106 (Y := Z) (d := Y.2 1) hT hC hA hf hc hP hx ⟨e21, hd⟩ ((hK.1 37 0 1 (by omega) (by omega) (by omega)).trans h37)
  refine m_qR k183 (As := []) (sn_106 _ _ q3) rfl rfl (by omega) ?_
  exact m_ireturn k183 ⟨rfl, P, tu, ro, r, q1, q2, q4⟩
set_option maxRecDepth 100000 in
theorem yb1 (xs : Nat → Int32) : gI (Y55 xs).1 1 0 1 = nI 0 ∧ gI (Y55 xs).1 37 0 1 = nI 0 := ⟨rfl, rfl⟩
theorem law_s {L R : Nat} {Y : Sm} (hL : L ≤ 3072) (h49 : Y.2 2049 = 0) (h50 : Y.2 2050 = 0) (h10 : Y.2 10000 = 0) (h12 : Y.2 10002 = 0) (h1 : Y.2 1 < 3) (g1 : gI Y.1 1 0 1 = nI 0) (g37 : gI Y.1 37 0 1 = nI 0) : WL L 300 13 30000 20000 7 [(0, aR 68 0)] [aR 0 0] Y LQ nX := by
  refine m_sg k300 5 (fun _ => rfl) trivial ?_
  refine m_le (n := 19000 + 0) (by omega) ?_
  refine m_xS k300 (n := 19000) (As := [aR 68 0, aI (nI 30), aI (nI 1), aI (nI 5)]) (c_181 hL (by omega) (by omega) (by omega)) nX_no rfl rfl (fun w Z h9 => ?_)
  obtain ⟨e9, C, hC1, hC2, rfl⟩ := h9
  cases e9
  refine m_sg k300 5 (fun _ => rfl) trivial ?_
  refine m_xS k300 (n := 19000) (As := [aR 68 0, aI (nI 31), aI (nI 1), aI (nI 8)]) (c_181 hL (by omega) (by omega) (by omega)) nX_no rfl rfl (fun w Z h9 => ?_)
  obtain ⟨e9, A, hA1, hA2, rfl⟩ := h9
  cases e9
  refine m_sg k300 5 (fun _ => rfl) trivial ?_
  refine m_le (n := 7040 + 11000) (by omega) ?_
  refine m_xS k300 (n := 7040) (As := [aR 68 0, aI (nI C), aI (nI A)]) (c_185 hL hC2 hA2 h49 h50 h10 h12) nX_no rfl rfl (fun w Z h9 => ?_)
  obtain ⟨rfl, hK, f, c, v, t, a1, a2, a3, a4, a5, hf, hc, hP, hS⟩ := h9
  have e21 := hK.2.2 1 (by omega)
  refine m_xS k300 (n := 7000) (As := [aR 0 0, aR 50 0]) (c_183 rfl ⟨by omega, hC2⟩ ⟨by omega, hA2⟩ hf hc hP hS ((hK.1 1 0 1 (by omega) (by omega) (by omega)).trans g1) (by rw [e21]; exact h1) ((hK.1 37 0 1 (by omega) (by omega) (by omega)).trans g37)) nX_no rfl rfl (fun w Z2 h9 => ?_)
  obtain ⟨rfl, P, tu, ro, r, q1, q2, h⟩ := h9
  subst q1
  subst q2
  refine m_sg k300 1 (fun _ => rfl) trivial ?_
  refine m_icmp_eq k300 rfl (fun _ => ?_) (fun z => absurd rfl z)
  refine m_sg k300 4 (fun _ => rfl) trivial ?_
  refine m_le (n := 6999 + 0) (by omega) ?_
  refine m_xS k300 (n := 6999) (As := [aR 68 0, aI (nI 32), aI (nI 3), aI (nI 20)]) (c_181 hL (by omega) (by omega) (by omega)) nX_no rfl rfl (fun w Z h9 => ?_)
  obtain ⟨e9, many, hm1, hm2, rfl⟩ := h9
  cases e9
  refine m_sg k300 3 (fun _ => rfl) trivial ?_
  exact m_le (n := 0 + 700 + 310 * many) (by omega) (law_l (P := P) hL hm2 ⟨rfl, rfl⟩ many 0 _ r 0 0 0 0 0 0 (by omega) h (by omega) (by omega))
theorem law_V {L : Nat} (hL : L ≤ 260) (xs : Nat → Int32) (z0 : Zz) (X0 : Mm) : V 300 [] 13 30000 (6 * 30000) allw z0 X0 (qn LQ) (qn nX) (cB, rP g0 [], L, 0, 0) 0 [(0, aR 68 0)] [] (xM xs) := by
  obtain ⟨T, hT, fT, c103⟩ := ct103 xs L
  refine k_new k300 0 0 (by decide +kernel) rfl rfl rfl rfl (by decide +kernel) rfl ?_
  refine v_seg k300 1 (pc' := 4) (ls' := [(0, aR 68 0)]) (st' := [aR 0 0, aR 0 0]) (X' := xM xs) (cs' := []) rfl trivial ?_
  refine k_call k300 (st := [aR 0 0]) rfl c103 rfl rfl rfl rfl rfl ?_
  refine v_up 2000 (6 * 2000) (Nat.le_of_ble_eq_true rfl) (Nat.le_of_ble_eq_true rfl) ?_
  have eg : ∀ q, q ≠ 3 → T.2 q = g0 q := fun q hq => by rw [fT.1, g_sG, ug_ne hq]; rfl
  have ek : ∀ k i, (∀ j, ¬ S2 0 k j) → gI T.1 k i = gI (Y55 xs).1 k i := fun k i h => by rw [fT.gI (h i), gI_sG]
  exact law_s (L := L) (R := 0) (Y := T) (by omega) (eg 2049 (by omega)) (eg 2050 (by omega)) (eg 10000 (by omega)) (eg 10002 (by omega)) (by rw [eg 1 (by omega)]; decide) (by
    rw [ek 1 0 (fun j w => by
      unfold S2 at w
      simp only [List.mem_cons, List.mem_nil_iff, or_false] at w
      omega)]
    exact (yb1 xs).1) (by
    rw [ek 37 0 (fun j w => by
      unfold S2 at w
      simp only [List.mem_cons, List.mem_nil_iff, or_false] at w
      omega)]
    exact (yb1 xs).2) z0 X0 2000 (by omega)
