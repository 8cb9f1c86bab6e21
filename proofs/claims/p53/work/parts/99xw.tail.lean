/-! the law behind the parse, walked (printed by wip/p53/new/xw.py) -/
theorem c_rn2 {Y : Sm} {P : Pm} {tu ro t n m s u pos : Nat} {r : Nat → Int32} (h : S6 Y P tu ro r t n m s u pos) {k n' m' n0 m0 : Nat} {r' r0 : Nat → Int32} (hk : 1 ≤ k ∧ k ≤ 500) (hs : s ≤ 1000) (ht : t + k ≤ 1000000) (hT : TkN P tu ro t s k n m r n' m' r') (hG' : GR P r' (t + k) n' m' s) (h2 : CR Y 2 P r0 n0 m0) : ∃ Z, fn_134 (nI k) Y = some (.inl (nI m' - nI m), Z) ∧ S6 Z P tu ro r' (t + k) n' m' s (u1 u) ((pos + 1) % 8) ∧ CR Z 2 P r0 n0 m0 ∧ gI Z.1 0 0 = gI Y.1 0 0 ∧ Z.2 5 = Y.2 5 ∧ Z.2 0 = Y.2 0 := by
  have h3 := h.h3
  obtain ⟨p1, p2, p3, p4⟩ := h.2.2.2.2.2
  obtain ⟨A, Z, e, fA, fZ, c0, c1, d1, d2⟩ := c_run h3 h.1.2.1 h.1.2.2 hs ht hk p1 p3 p4 p2 h.gr hG' h.cr hT
  obtain ⟨Z', e', hZ', -, -⟩ := c_rn h hk hs ht hT hG'
  have ez : Z' = Z := by
    rw [e'] at e
    exact congrArg Prod.snd (Option.some.inj e)
  subst ez
  have z : ∀ a, a ≠ (pos + 1) % 8 + 6 → Z'.2 a = Y.2 a := fun a ha => by rw [fZ.1, fA.1, g_sG, ug_ne (by omega)]
  refine ⟨Z', e', hZ', (h2.frH h3.2.2.2 (by omega) fA).frS h3.2.2.2 (by omega) fZ, ?_, z 5 (by omega), z 0 (by omega)⟩
  rw [fZ.gI (fun w => by
    unfold SS at w
    simp only [List.mem_cons, List.mem_nil_iff, or_false] at w
    omega), fA.gI (fun w => by
    unfold S2 at w
    simp only [List.mem_cons, List.mem_nil_iff, or_false] at w
    omega), gI_sG]
/-- the end of the law -/
abbrev LQ : Option Av → Sm → Prop := fun w _ => w = some (aI (nI 1))
theorem law_e {L B R : Nat} {Y : Sm} {P : Pm} {tu ro t n m s u pos : Nat} {r : Nat → Int32} {ls : Lo} (h : S6 Y P tu ro r t n m s u pos) (hs : s ≤ 1000) (ht : t ≤ 2000) (l1 : lget 1 ls = some (aR 0 0)) (l2 : lget 2 ls = some (aI (nI P.1))) (l3 : lget 3 ls = some (aI (nI P.2.1))) : WL L 300 13 B (R + 310) 364 ls [] Y LQ nX := by
  have h3 := h.h3
  refine m_ls [(1, aR 0 0), (2, aI (nI P.1)), (3, aI (nI P.2.1))] (fun q hq => ?_) ?_
  · simp only [List.mem_cons, List.not_mem_nil, or_false] at hq
    rcases hq with rfl | rfl | rfl
    · exact l1
    · exact l2
    · exact l3
  obtain ⟨Z, eZ, hZ, c2, g11, g5⟩ := c_sav h
  refine m_sg k300 1 (fun _ => rfl) trivial ?_
  refine m_qR k300 (As := []) (sn_152 _ _ eZ) rfl rfl (by omega) ?_
  refine m_sg k300 2 (fun _ => rfl) trivial ?_
  refine m_qR k300 (As := [aI (nI 2)]) (sn_109 _ _ _ (q_cnt hZ (Or.inl rfl))) rfl rfl (by omega) ?_
  refine m_icmp_ne k300 rfl (fun z => absurd rfl z) (fun _ => ?_)
  refine m_sg k300 2 (fun _ => rfl) trivial ?_
  obtain ⟨n', m', r', hT, hG'⟩ := TkN.ex (tu := tu) (ro := ro) h3 hZ.gr 5
  have hmm := hT.mle ⟨h3.2.1, h3.2.2.2⟩
  have hm' := hG'.2.1
  obtain ⟨Z2, e2, h2, c22, g2, q5, q0⟩ := c_rn2 hZ (by omega) hs (by omega) hT hG' c2
  rw [nI_sb hmm] at e2
  refine m_qV k300 (As := [aI (nI 5)]) (sn_134 _ _ _ e2) rfl rfl (by omega) ?_
  refine m_if_lt k300 rfl (fun z => absurd z (nI_pos (by omega))) (fun _ => ?_)
  refine m_sg k300 1 (fun _ => rfl) trivial ?_
  obtain ⟨Z3, e3, h3'⟩ := c_bck h2 (by rw [g2]; exact g11) c22 (by rw [q5, q0]; exact g5) hZ.gr hZ.2.2.2.2.1
  refine m_qV k300 (As := []) (sn_153 _ _ e3) rfl rfl (by omega) ?_
  refine m_sg k300 2 (fun _ => rfl) trivial ?_
  refine m_qR k300 (As := [aI (nI 2)]) (sn_109 _ _ _ (q_cnt h3' (Or.inl rfl))) rfl rfl (by omega) ?_
  refine m_icmp_ne k300 rfl (fun z => absurd rfl z) (fun _ => ?_)
  refine m_sg k300 2 (fun _ => rfl) trivial ?_
  refine m_qR k300 (As := [aI (nI 15)]) (sn_109 _ _ _ (q_cnt h3' (Or.inr (Or.inr (Or.inr (Or.inr (Or.inr (Or.inr rfl)))))))) rfl rfl (by omega) ?_
  rw [show cntV P r 0 15 = nI 0 from rfl]
  refine m_if_ne k300 rfl (fun z => absurd rfl z) (fun _ => ?_)
  refine m_sg k300 3 (fun _ => rfl) trivial ?_
  refine m_le (n := 0 + 300) (by omega) ?_
  refine m_xS k300 (n := 0) (As := [aR 0 0, aI (nI P.1), aI (nI P.2.1)]) (c_188 h3') nX_no rfl rfl (fun w Z4 h9 => ?_)
  obtain ⟨rfl, hq⟩ := h9
  refine m_if_eq k300 rfl (fun z => absurd z (by decide)) (fun _ => ?_)
  refine m_sg k300 2 (fun _ => rfl) trivial ?_
  exact m_zreturn k300 (Or.inr rfl) rfl
theorem ab_a (a b : Int32) : a + (b - a) = b := by
  rw [Int32.add_comm, Int32.sub_add_cancel]
theorem law_m {L B R : Nat} {Y : Sm} {P : Pm} {tu ro t n m s u pos : Nat} {r : Nat → Int32} {ls : Lo} (hL : L ≤ 3072) (h : S6 Y P tu ro r t n m s u pos) (hs : s ≤ 1000) (ht : t ≤ 1000) (l0 : lget 0 ls = some (aR 68 0)) (l1 : lget 1 ls = some (aR 0 0)) (l2 : lget 2 ls = some (aI (nI P.1))) (l3 : lget 3 ls = some (aI (nI P.2.1))) : WL L 300 13 B (R + 700) 96 ls [] Y LQ nX := by
  have h3 := h.h3
  have hd : P.1 ≤ 5 ∧ P.2.1 ≤ 8 := ⟨h3.2.1, h3.2.2.2⟩
  have hG := h.gr
  have hms := hG.2.1.2.1
  refine m_ls [(0, aR 68 0), (1, aR 0 0), (2, aI (nI P.1)), (3, aI (nI P.2.1))] (fun q hq => ?_) ?_
  · simp only [List.mem_cons, List.not_mem_nil, or_false] at hq
    rcases hq with rfl | rfl | rfl | rfl
    · exact l0
    · exact l1
    · exact l2
    · exact l3
  refine m_sg k300 2 (fun _ => rfl) trivial ?_
  refine m_qR k300 (As := [aI (nI 10)]) (sn_109 _ _ _ (q_cnt h (Or.inr (Or.inr (Or.inr (Or.inl rfl)))))) rfl rfl (by omega) ?_
  rw [show cntV P r u 10 = nI m from hG.1.2.2.1]
  refine m_sg k300 3 (fun _ => rfl) trivial ?_
  refine m_qR k300 (As := [aI (nI 2)]) (sn_109 _ _ _ (q_cnt h (Or.inl rfl))) rfl rfl (by omega) ?_
  rw [show cntV P r u 2 = nI t from hG.1.1]
  refine m_sg k300 3 (fun _ => rfl) trivial ?_
  refine m_qR k300 (As := [aI (nI 15)]) (sn_109 _ _ _ (q_cnt h (Or.inr (Or.inr (Or.inr (Or.inr (Or.inr (Or.inr rfl)))))))) rfl rfl (by omega) ?_
  rw [show cntV P r u 15 = nI u from rfl]
  refine m_sg k300 5 (fun _ => rfl) trivial ?_
  refine m_le (n := R + 690 + 0) (by omega) ?_
  refine m_xS k300 (n := R + 690) (As := [aR 68 0, aI (nI 33), aI (nI 1), aI (nI 40)]) (c_181 hL (by omega) (by omega) (by omega)) nX_no rfl rfl (fun w Z h9 => ?_)
  obtain ⟨e9, q, hq1, hq2, rfl⟩ := h9
  cases e9
  obtain ⟨x1, hx1, ex1⟩ := hG.2.2.1
  have hex : ∀ j, ∃ (x : Nat × Nat × (Nat → Int32)), j < 3 → TkN P tu ro t s q n m (upd r 1 (nI j)) x.1 x.2.1 x.2.2 ∧ GR P x.2.2 (t + q) x.1 x.2.1 s := fun j => by
    by_cases c : j < 3
    · obtain ⟨n', m', r', a, b⟩ := TkN.ex (tu := tu) (ro := ro) h3 (hG.tly hd c) q
      exact ⟨(n', m', r'), fun _ => ⟨a, b⟩⟩
    · exact ⟨(0, 0, r), fun z => absurd z c⟩
  obtain ⟨xf, hxf⟩ := Classical.axiomOfChoice hex
  have hself : upd r 1 (nI x1) = r := upd_self ex1
  obtain ⟨hT, hGq⟩ := hxf x1 hx1
  rw [hself] at hT
  have hmm := hT.mle hd
  have hm' := hGq.2.1
  generalize hn' : (xf x1).1 = n' at hT hGq hm'
  generalize hm9 : (xf x1).2.1 = m' at hT hGq hm' hmm
  generalize hr' : (xf x1).2.2 = r' at hT hGq
  have eA : ansO r' (-1 : Int32) - ansO r (-1 : Int32) = nI (m' - m) := by
    unfold ansO
    rw [if_pos rfl, if_pos rfl, hGq.1.2.2.1, hG.1.2.2.1, nI_sb hmm]
  obtain ⟨j, RR, NN, MM, hU⟩ := unt_ex (tu := tu) (ro := ro) h3 hG goE 1000
  generalize hev : (if 0 < NN j then (-1 : Int32) else nI j) = ev
  have hemp : ∀ {Y : Sm} {u pos : Nat}, S6 Y P tu ro r t n m s u pos → CqS fn_149 Y ev := fun h => by rw [← hev]; exact q_emp hs (by omega) hU h
  refine m_sg k300 4 (fun _ => rfl) trivial ?_
  obtain ⟨Z1, e1, q1⟩ := q_ans h hT ⟨hq1, by omega⟩ (Or.inl rfl) hs (by omega)
  rw [eA] at e1
  refine m_qV k300 (As := [aI (nI q), aI (-1 : Int32)]) (sn_144 _ _ _ _ e1) rfl rfl (by omega) ?_
  replace h := q1.s6 h
  refine m_sg k300 4 (fun _ => rfl) trivial ?_
  obtain ⟨Z2, e2, q2⟩ := q_ans (w := nI 0) h hT ⟨hq1, by omega⟩ (Or.inr ⟨0, h3.2.2.1, rfl⟩) hs (by omega)
  refine m_qV k300 (As := [aI (nI q), aI (nI 0)]) (sn_144 _ _ _ _ e2) rfl rfl (by omega) ?_
  replace h := q2.s6 h
  refine m_sg k300 4 (fun _ => rfl) trivial ?_
  have ea0 : ∀ r : Nat → Int32, ansO r (nI 0) = r 52 := fun r => by
    unfold ansO
    rw [if_neg (nI_ne_m1 (by omega))]
    rfl
  refine m_qV k300 (As := [aI (nI 0), aI (nI 7)]) (sn_111 _ _ _ _ (q_ask h h3.2.2.1 (by omega))) rfl rfl (by omega) ?_
  rw [show askV P r n 0 7 = r 52 from rfl, ea0, ea0]
  refine m_sg k300 2 (fun _ => rfl) trivial ?_
  obtain ⟨Z3, e3, q3⟩ := hemp h
  refine m_qR k300 (As := []) (sn_149 _ _ e3) rfl rfl (by omega) ?_
  replace h := q3.s6 h
  refine m_sg k300 3 (fun _ => rfl) trivial ?_
  obtain ⟨Z4, e4, h4, c4, g4⟩ := c_rn h ⟨hq1, by omega⟩ hs (by omega) hT hGq
  rw [nI_sb hmm] at e4
  refine m_qV k300 (As := [aI (nI q)]) (sn_134 _ _ _ e4) rfl rfl (by omega) ?_
  refine m_sg k300 1 (fun _ => rfl) trivial ?_
  refine m_icmp_ne k300 rfl (fun z => absurd rfl z) (fun _ => ?_)
  refine m_sg k300 3 (fun _ => rfl) trivial ?_
  refine m_qV k300 (As := [aI (nI 0), aI (nI 7)]) (sn_111 _ _ _ _ (q_ask h4 h3.2.2.1 (by omega))) rfl rfl (by omega) ?_
  rw [show askV P r' n' 0 7 = r' 52 from rfl]
  refine m_sg k300 3 (fun _ => rfl) trivial ?_
  rw [ab_a]
  refine m_icmp_ne k300 rfl (fun z => absurd rfl z) (fun _ => ?_)
  refine m_sg k300 2 (fun _ => rfl) trivial ?_
  refine m_qR k300 (As := [aI (nI 2)]) (sn_109 _ _ _ (q_cnt h4 (Or.inl rfl))) rfl rfl (by omega) ?_
  rw [show cntV P r' (u1 u) 2 = nI (t + q) from hGq.1.1]
  refine m_sg k300 3 (fun _ => rfl) trivial ?_
  rw [nI_add t q]
  refine m_icmp_ne k300 rfl (fun z => absurd rfl z) (fun _ => ?_)
  refine m_sg k300 3 (fun _ => rfl) trivial ?_
  refine m_le (n := R + 360 + 300) (by omega) ?_
  refine m_xS k300 (n := R + 360) (As := [aR 0 0, aI (nI P.1), aI (nI P.2.1)]) (c_188 h4) nX_no rfl rfl (fun w Z5 h9 => ?_)
  obtain ⟨rfl, q5⟩ := h9
  replace h4 := q5.s6 h4
  have c5 := q5.crk h3.2.2.2 (by omega) c4
  have g5 : Z5.2 ((pos + 1) % 8 + 3 + 3) = Z5.2 0 := by
    rw [q5.1 _ (by omega), q5.1 0 (by omega)]
    exact g4
  refine m_if_ne k300 rfl (fun _ => ?_) (fun z => absurd z (by decide))
  refine m_sg k300 1 (fun _ => rfl) trivial ?_
  obtain ⟨Z6, e6, h6⟩ := c_und h4 (by unfold u1; split <;> omega) c5 g5 hG h.2.2.2.2.1
  refine m_qV k300 (As := []) (sn_142 _ _ e6) rfl rfl (by omega) ?_
  refine m_sg k300 3 (fun _ => rfl) trivial ?_
  refine m_qR k300 (As := [aI (nI 10)]) (sn_109 _ _ _ (q_cnt h6 (Or.inr (Or.inr (Or.inr (Or.inl rfl)))))) rfl rfl (by omega) ?_
  rw [show cntV P r (u1 u - 1) 10 = nI m from hG.1.2.2.1]
  refine m_sg k300 1 (fun _ => rfl) trivial ?_
  refine m_icmp_ne k300 rfl (fun z => absurd rfl z) (fun _ => ?_)
  refine m_sg k300 2 (fun _ => rfl) trivial ?_
  refine m_qR k300 (As := [aI (nI 2)]) (sn_109 _ _ _ (q_cnt h6 (Or.inl rfl))) rfl rfl (by omega) ?_
  rw [show cntV P r (u1 u - 1) 2 = nI t from hG.1.1]
  refine m_sg k300 1 (fun _ => rfl) trivial ?_
  refine m_icmp_ne k300 rfl (fun z => absurd rfl z) (fun _ => ?_)
  refine m_sg k300 2 (fun _ => rfl) trivial ?_
  have hu8 := h.2.2.2.2.2.2.1
  have rest : WL L 300 13 B (R + 350) 254 [(0, aR 68 0), (1, aR 0 0), (2, aI (nI P.1)), (3, aI (nI P.2.1)), (5, aI (nI m)), (6, aI (nI t)), (7, aI (nI u)), (8, aI (nI q)), (9, aI (nI (m' - m))), (10, aI (r' 52 - r 52)), (11, aI (r 52)), (12, aI ev), (13, aI (nI (u1 u - 1)))] [] Z6 LQ nX := by
    refine m_sg k300 1 (fun _ => rfl) trivial ?_
    obtain ⟨Z7, e7, q7⟩ := hemp h6
    refine m_qR k300 (As := []) (sn_149 _ _ e7) rfl rfl (by omega) ?_
    have h7 := q7.s6 h6
    refine m_sg k300 1 (fun _ => rfl) trivial ?_
    refine m_icmp_eq k300 rfl (fun _ => ?_) (fun z => absurd rfl z)
    refine m_sg k300 2 (fun _ => rfl) trivial ?_
    obtain ⟨b, hb3, hbm, Z8, e8, q8⟩ := q_bst h7 (k := q) (rf := fun j => (xf j).2.2) (nf := fun j => (xf j).1) (mf := fun j => (xf j).2.1) (fun j hj => hxf j hj) ⟨hq1, by omega⟩ hs (by omega)
    refine m_qV k300 (As := [aI (nI q)]) (sn_146 _ _ _ e8) rfl rfl (by omega) ?_
    have h8 := q8.s6 h7
    refine m_sg k300 3 (fun _ => rfl) trivial ?_
    obtain ⟨Z9, e9, h9⟩ := c_tly h8 hb3
    rw [ex1] at e9
    refine m_qV k300 (As := [aI (nI b)]) (sn_140 _ _ _ e9) rfl rfl (by omega) ?_
    refine m_sg k300 4 (fun _ => rfl) trivial ?_
    obtain ⟨hTb, hGb⟩ := hxf b hb3
    have hmb := hTb.mle hd
    have hmb2 := hGb.2.1
    have eB : ansO (xf b).2.2 (-1 : Int32) - ansO (upd r 1 (nI b)) (-1 : Int32) = nI ((xf b).2.1 - m) := by
      unfold ansO
      rw [if_pos rfl, if_pos rfl, hGb.1.2.2.1, h9.gr.1.2.2.1, nI_sb hmb]
    obtain ⟨Z10, e10, q10⟩ := q_ans h9 hTb ⟨hq1, by omega⟩ (Or.inl rfl) hs (by omega)
    rw [eB] at e10
    refine m_qV k300 (As := [aI (nI q), aI (-1 : Int32)]) (sn_144 _ _ _ _ e10) rfl rfl (by omega) ?_
    have h10 := q10.s6 h9
    refine m_sg k300 3 (fun _ => rfl) trivial ?_
    have hle : m' ≤ (xf b).2.1 := by rw [← hm9]; exact hbm x1 hx1
    refine m_icmp_lt k300 rfl (fun z => absurd z (nI_nlt (by omega) (by omega))) (fun _ => ?_)
    refine m_sg k300 2 (fun _ => rfl) trivial ?_
    obtain ⟨Z11, e11, h11⟩ := c_tly h10 hx1
    rw [upd_at] at e11
    rw [upd_upd, hself] at h11
    refine m_qV k300 (As := [aI (nI x1)]) (sn_140 _ _ _ e11) rfl rfl (by omega) ?_
    refine m_sg k300 1 (fun _ => rfl) trivial ?_
    refine m_icmp_ne k300 rfl (fun z => absurd rfl z) (fun _ => ?_)
    refine m_sg k300 3 (fun _ => rfl) trivial ?_
    obtain ⟨Z12, e12, q12⟩ := q_ans h11 hT ⟨hq1, by omega⟩ (Or.inl rfl) hs (by omega)
    rw [eA] at e12
    refine m_qV k300 (As := [aI (nI q), aI (-1 : Int32)]) (sn_144 _ _ _ _ e12) rfl rfl (by omega) ?_
    have h12 := q12.s6 h11
    refine m_sg k300 1 (fun _ => rfl) trivial ?_
    refine m_icmp_eq k300 rfl (fun _ => ?_) (fun z => absurd rfl z)
    refine m_sg k300 1 (fun _ => rfl) trivial ?_
    refine m_if_le k300 rfl (fun _ => ?_) (fun zev => ?_)
    · exact m_le (n := R + 310) (by omega) (law_e h12 hs (by omega) rfl rfl rfl)
    · refine m_sg k300 2 (fun _ => rfl) trivial ?_
      refine m_icmp_gt k300 rfl (fun _ => ?_) (fun z5 => ?_)
      · exact m_le (n := R + 310) (by omega) (law_e h12 hs (by omega) rfl rfl rfl)
      · obtain ⟨⟨r0, n0, m0⟩, hch, hj, hg, hg2⟩ := hU
        have hN : NN j = 0 := by
          rcases Nat.eq_zero_or_pos (NN j) with c | c
          · exact c
          · rw [if_pos c] at hev
            rw [← hev] at zev
            exact absurd (by decide) zev
        rw [hN, if_neg (by omega)] at hev
        subst hev
        have hj1 : 1 ≤ j := by
          rcases Nat.eq_zero_or_pos j with c | c
          · rw [c] at zev
            exact absurd (by decide) zev
          · exact c
        have hj5 : j ≤ 500 := Nat.le_of_not_lt fun c => z5 (nI_lt (a := 500) c (by omega))
        have hTj : TkN P tu ro t s j n m r (NN j) (MM j) (RR j) := ⟨RR, NN, MM, ⟨r0, n0, m0⟩, ⟨rfl, rfl, rfl⟩, fun i hi => ⟨hch.1 i (by omega), hch.2 i hi⟩⟩
        have hGj := hch.1 j (Nat.le_refl _)
        have hsum := (hTj.xi hd h12.2.2.2.2.1).2
        have hn0 : 0 < n := by
          have := hg 0 (by omega)
          unfold goE at this
          rw [n0] at this
          exact of_decide_eq_true this
        refine m_sg k300 2 (fun _ => rfl) trivial ?_
        obtain ⟨Z13, e13, h13, -, -⟩ := c_rn h12 ⟨hj1, hj5⟩ hs (by omega) hTj hGj
        rw [nI_sb (by omega : m ≤ MM j)] at e13
        refine m_qV k300 (As := [aI (nI j)]) (sn_134 _ _ _ e13) rfl rfl (by omega) ?_
        have hMs := hGj.2.1
        refine m_sg k300 1 (fun _ => rfl) trivial ?_
        refine m_icmp_lt k300 rfl (fun z => absurd z (nI_nlt (b := 1) (by omega) (by omega))) (fun _ => ?_)
        refine m_sg k300 2 (fun _ => rfl) trivial ?_
        have h8j : RR j 8 = (-1 : Int32) := by
          rcases hGj.2.2.2.2.2.2.2.2.1 with c | ⟨i, hi, _⟩
          · exact c
          · omega
        refine m_qR k300 (As := [aI (nI 9)]) (sn_109 _ _ _ (q_cnt h13 (Or.inr (Or.inr (Or.inl rfl))))) rfl rfl (by omega) ?_
        have e99 : ∀ u, cntV P (RR j) u 9 = nI 0 := fun u => by
          show (if RR j 8 = (-1 : Int32) then RR j 9 else RR j 9 - nI 1) = nI 0
          rw [if_pos h8j, hGj.1.2.1, hN]
        rw [e99]
        refine m_if_ne k300 rfl (fun z => absurd rfl z) (fun _ => ?_)
        refine m_sg k300 1 (fun _ => rfl) trivial ?_
        refine m_qR k300 (As := []) (sn_117 _ _ (q_prog h13)) rfl rfl (by omega) ?_
        rw [h8j]
        refine m_sg k300 1 (fun _ => rfl) trivial ?_
        refine m_icmp_eq k300 rfl (fun _ => ?_) (fun z => absurd rfl z)
        exact m_le (n := R + 310) (by omega) (law_e h13 hs (by omega) rfl rfl rfl)
  refine m_icmp_ge k300 rfl (fun _ => ?_) (fun z => ?_)
  · exact m_le (n := R + 350) (by omega) rest
  · have hu : u < 8 := Nat.lt_of_not_le fun q => z (nI_le (a := 8) q (by omega))
    refine m_sg k300 2 (fun _ => rfl) trivial ?_
    have hue : u1 u - 1 = u := by
      unfold u1
      rw [if_pos (by omega)]
      rfl
    refine m_icmp_ne k300 rfl (fun z => absurd (by rw [hue]) z) (fun _ => ?_)
    exact m_le (n := R + 350) (by omega) rest
/-- the loop of acts -/
theorem law_l {L B R C A many : Nat} {P : Pm} {tu ro : Nat} (hL : L ≤ 3072) (hmany : many ≤ 20) (hP : P.1 = C ∧ P.2.1 = A) : ∀ j k Y r t n m s u pos, k + j = many → S6 Y P tu ro r t n m s u pos → t ≤ 9 * k → s ≤ k → WL L 300 13 B (R + 700 + 310 * j) 57 [(0, aR 68 0), (1, aR 0 0), (2, aI (nI P.1)), (3, aI (nI P.2.1)), (4, aI (nI many)), (5, aI (nI k))] [] Y LQ nX
  | 0, k, Y, r, t, n, m, s, u, pos, hj, h, ht, hs => by
    have hk : k = many := by omega
    subst hk
    refine m_sg k300 2 (fun _ => rfl) trivial ?_
    exact m_icmp_ge k300 rfl (fun _ => law_m hL h (by omega) (by omega) rfl rfl rfl rfl) (fun z => absurd (nI_le (Nat.le_refl _) (by omega)) z)
  | j + 1, k, Y, r, t, n, m, s, u, pos, hj, h, ht, hs => by
    refine m_sg k300 2 (fun _ => rfl) trivial ?_
    refine m_icmp_ge k300 rfl (fun z => absurd z (nI_ge (by omega) (by omega))) (fun _ => ?_)
    refine m_sg k300 7 (fun _ => rfl) trivial ?_
    rw [show nI k + 9 = nI (k + 9) from nI_add k 9]
    refine m_le (n := R + 700 + 310 * j + 300 + 4) (by omega) ?_
    refine m_xS k300 (n := R + 700 + 310 * j + 300) (As := [aR 0 0, aR 68 0, aI (nI (k + 9)), aI (nI P.1), aI (nI P.2.1)]) (c_187 hL (by omega) h (by omega) (by omega)) nX_no rfl rfl (fun w Z h9 => ?_)
    obtain ⟨v, r', t', n', m', s', u', pos', hv, rfl, h', ht', hs'⟩ := h9
    refine m_if_lt k300 rfl (fun z => absurd z (nI_pos hv)) (fun _ => ?_)
    refine m_sg k300 3 (fun _ => rfl) trivial ?_
    refine m_xS k300 (n := R + 700 + 310 * j) (As := [aR 0 0, aI (nI P.1), aI (nI P.2.1)]) (c_188 h') nX_no rfl rfl (fun w Z2 h9 => ?_)
    obtain ⟨rfl, q⟩ := h9
    refine m_if_ne k300 rfl (fun _ => ?_) (fun z => absurd z (by decide))
    refine m_sg k300 2 (fun _ => rfl) trivial ?_
    rw [show nI k + 1 = nI (k + 1) from nI_1 k]
    exact law_l hL hmany hP j (k + 1) Z2 r' t' n' m' s' u' pos' (by omega) (q.s6 h') (by omega) (by omega)
