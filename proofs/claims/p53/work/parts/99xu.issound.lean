/-! the law's isSound, walked (printed by wip/p53/new/xu.py) -/
section MQ
variable {L y d B n pc : Nat} {ls : Lo} {st : List Av} {Y : Sm} {P : Option Av → Sm → Prop} {E : Nat → Sm → Prop}
theorem m_qV {b' : Nat} (K : ∀ p, chk y p = true) {v9 : Int32} {a c np y' d' : Nat} {As stk : List Av} {v : Int32} {Y' : Sm} (hC : Mt d' b' y' (aR 0 0 :: As) Y (Pz (fun v => some (aI v)) (Sum.inl v : Int32 ⊕ Nat) Y') (Ez (Sum.inl v : Int32 ⊕ Nat) Y')) (ht : tb y pc = (81, v9, a, y', c, np)) (hs : stk = rapp (aR 0 0 :: As) st) (hb : b' ≤ n) (kk : WL L y d B (n - b') np ls (aI v :: st) Y' P E)
    (hcl : (vck 10).1 = RN (cid y') := by rfl) (hlen : As.length = npl.getD y' 0 := by rfl) (hd : Nat.ble (d' + 1) d = true := by rfl) (hst : Nat.ble st.length 4 = true := by rfl) : WL L y d B n pc ls stk Y P E :=
  m_le (n := n - b' + b') (by omega) (m_cV1 K (ML_mt hC) Ez_no ht hs kk rfl hcl (by rfl) hlen hd hst)
theorem m_qR {b' : Nat} (K : ∀ p, chk y p = true) {v9 : Int32} {a c np y' d' : Nat} {As stk : List Av} {v : Int32} {Y' : Sm} (hC : Mt d' b' y' (aR 0 0 :: As) Y (Rt (some (aI v)) Y') nX) (ht : tb y pc = (81, v9, a, y', c, np)) (hs : stk = rapp (aR 0 0 :: As) st) (hb : b' ≤ n) (kk : WL L y d B (n - b') np ls (aI v :: st) Y' P E)
    (hcl : (vck 10).1 = RN (cid y') := by rfl) (hlen : As.length = npl.getD y' 0 := by rfl) (hd : Nat.ble (d' + 1) d = true := by rfl) (hst : Nat.ble st.length 4 = true := by rfl) : WL L y d B n pc ls stk Y P E :=
  m_le (n := n - b' + b') (by omega) (m_cV1 K (ML_mt hC) nX_no ht hs kk rfl hcl (by rfl) hlen hd hst)
end MQ
/-- what isSound adds up, told of a row -/
def SQ (P : Pm) (r : Nat → Int32) (_t _n m _s : Nat) (b c x y w : Nat → Nat) (x1 : Nat) (fo : Nat → Int32) : Prop := (∀ p, p < P.1 → b p < P.1 ∧ r (10 + p) = nI (b p)) ∧ (∀ p, p < P.1 → c p < P.1 ∧ fo p = nI (c p)) ∧ (∀ k, k < P.1 → ∃ p, p < P.1 ∧ b p = k) ∧ (∀ k, k < P.1 → ∃ p, p < P.1 ∧ c p = k) ∧ (x1 < 3 ∧ r 1 = nI x1) ∧ (OutOK P r (-1 : Int32) (nI x1) fo) ∧ ((∀ k, k < P.1 → r (68 + k) = nI (x k)) ∧ sumQ x P.1 = m) ∧ ((∀ a, a < P.2.1 → r (52 + a) = nI (y a)) ∧ sumQ y P.2.1 = m) ∧ (∀ a, a < P.2.1 → w a ≤ 99 ∧ P.2.2.2 a = nI (w a))
section SQ
variable {P : Pm} {r : Nat → Int32} {t n m s : Nat} {b c x y w : Nat → Nat} {x1 : Nat} {fo : Nat → Int32}
theorem SQ.hb (h : SQ P r t n m s b c x y w x1 fo) : ∀ p, p < P.1 → b p < P.1 ∧ r (10 + p) = nI (b p) := h.1
theorem SQ.hc (h : SQ P r t n m s b c x y w x1 fo) : ∀ p, p < P.1 → c p < P.1 ∧ fo p = nI (c p) := h.2.1
theorem SQ.hb2 (h : SQ P r t n m s b c x y w x1 fo) : ∀ k, k < P.1 → ∃ p, p < P.1 ∧ b p = k := h.2.2.1
theorem SQ.hc2 (h : SQ P r t n m s b c x y w x1 fo) : ∀ k, k < P.1 → ∃ p, p < P.1 ∧ c p = k := h.2.2.2.1
theorem SQ.h1 (h : SQ P r t n m s b c x y w x1 fo) : x1 < 3 ∧ r 1 = nI x1 := h.2.2.2.2.1
theorem SQ.ho (h : SQ P r t n m s b c x y w x1 fo) : OutOK P r (-1 : Int32) (nI x1) fo := h.2.2.2.2.2.1
theorem SQ.hx (h : SQ P r t n m s b c x y w x1 fo) : (∀ k, k < P.1 → r (68 + k) = nI (x k)) ∧ sumQ x P.1 = m := h.2.2.2.2.2.2.1
theorem SQ.hy (h : SQ P r t n m s b c x y w x1 fo) : (∀ a, a < P.2.1 → r (52 + a) = nI (y a)) ∧ sumQ y P.2.1 = m := h.2.2.2.2.2.2.2.1
theorem SQ.hw (h : SQ P r t n m s b c x y w x1 fo) : ∀ a, a < P.2.1 → w a ≤ 99 ∧ P.2.2.2 a = nI (w a) := h.2.2.2.2.2.2.2.2
end SQ
theorem sq_ex {Y : Sm} {P : Pm} {tu ro t n m s u pos : Nat} {r : Nat → Int32} (h : S6 Y P tu ro r t n m s u pos) : ∃ b c x y w x1 fo, SQ P r t n m s b c x y w x1 fo := by
  have h3 := h.h3
  have hG := h.gr
  obtain ⟨b, b1, b2, b3, b4⟩ := ord_i h3.2.1 hG.2.2.2.2.2.1
  obtain ⟨x1, hx1, e1⟩ := hG.2.2.1
  have ho := outc_ok P r (-1 : Int32) (nI x1) r
  obtain ⟨c, c1, c2, c3, c4⟩ := ord_i h3.2.1 (ho.ord hG.2.2.2.2.2.1)
  obtain ⟨⟨x, xa, xb⟩, ⟨y, ya, yb⟩, _⟩ := h.2.2.2.2.1
  have hw : ∀ a, ∃ v, a < P.2.1 → v ≤ 99 ∧ P.2.2.2 a = nI v := fun a => by
    by_cases q : a < P.2.1
    · obtain ⟨v, hv, e⟩ := h.1.2.1 a q
      exact ⟨v, fun _ => ⟨hv.2, e⟩⟩
    · exact ⟨0, fun z => absurd z q⟩
  obtain ⟨w, hw⟩ := Classical.axiomOfChoice hw
  exact ⟨b, c, x, y, w, x1, _, ⟨b1, c1, fun k hk => ⟨_, (b3 k hk).1, (b3 k hk).2⟩, fun k hk => ⟨_, (c3 k hk).1, (c3 k hk).2⟩, ⟨hx1, e1⟩, ho, ⟨xa, xb⟩, ⟨ya, yb⟩, hw⟩⟩
def pkN (P : Pm) (r : Nat → Int32) (w : Nat → Nat) (k : Nat) : Nat := sumQ (fun a => wgt P r w a * (P.1 - 1 - plc P r a k)) P.2.1
def wkN (r : Nat → Int32) (n k : Nat) : Nat := cntN (inLS r (nI k)) n
def okN (r : Nat → Int32) (n a : Nat) : Nat := cntN (fun j => decide (rq r j 1 = nI a) && waitS r j) n
theorem pk_e {P : Pm} {r : Nat → Int32} {w : Nat → Nat} {k : Nat} (hB : BalI r P.1 P.2.1) (hw : ∀ a, a < P.2.1 → w a ≤ 99 ∧ P.2.2.2 a = nI (w a)) (hk : k < P.1) : ptsS P r (-1 : Int32) k = nI (pkN P r w k) := pts_n hB (fun a ha => (hw a ha).2) hk P.2.1 (Nat.le_refl _)
theorem c_188a {L R : Nat} {Y0 : Sm} {P : Pm} {tu ro t n m s u pos : Nat} {r : Nat → Int32} {b c x y w : Nat → Nat} {x1 : Nat} {fo : Nat → Int32} {Q : Option Av → Sm → Prop} (hQ : SQ P r t n m s b c x y w x1 fo) (kk : ∀ Y, QC Y0 Y → S6 Y P tu ro r t n m s u pos → WL L 188 9 300 R 155 [(0, aR 0 0), (1, aI (nI P.1)), (2, aI (nI P.2.1)), (3, aI (nI (orN b P.1))), (4, aI (nI (orN c P.1))), (5, aI (nI (sumQ (wkN r n) P.1))), (6, aI (nI (sumQ x P.1))), (7, aI (nI (sumQ (pkN P r w) P.1))), (8, aI (nI P.1))] [] Y Q nX) : ∀ j k Y, k + j = P.1 → QC Y0 Y → S6 Y P tu ro r t n m s u pos → WL L 188 9 300 (R + 30 * j) 17 [(0, aR 0 0), (1, aI (nI P.1)), (2, aI (nI P.2.1)), (3, aI (nI (orN b k))), (4, aI (nI (orN c k))), (5, aI (nI (sumQ (wkN r n) k))), (6, aI (nI (sumQ x k))), (7, aI (nI (sumQ (pkN P r w) k))), (8, aI (nI k))] [] Y Q nX
  | 0, k, Y, hj, hq, h => by
    have h3 := h.h3
    have hk : k = P.1 := by omega
    subst hk
    refine m_sg k188 2 (fun _ => rfl) trivial ?_
    exact m_icmp_ge k188 rfl (fun _ => kk Y hq h) (fun z => absurd (nI_le (Nat.le_refl _) (by omega)) z)
  | j + 1, k, Y, hj, hq, h => by
    have h3 := h.h3
    have hk : k < P.1 := by omega
    have hG := h.gr
    have hn := hG.2.1.1
    obtain ⟨b1, b2⟩ := hQ.hb k hk
    obtain ⟨c1, c2⟩ := hQ.hc k hk
    refine m_sg k188 2 (fun _ => rfl) trivial ?_
    refine m_icmp_ge k188 rfl (fun z => absurd z (nI_ge hk (by omega))) (fun _ => ?_)
    refine m_sg k188 4 (fun _ => rfl) trivial ?_
    refine m_qV k188 (As := [aI (nI k)]) (sn_114 _ _ _ (q_ord h hk)) rfl rfl (by omega) ?_
    rw [b2]
    refine m_sg k188 8 (fun _ => rfl) trivial ?_
    rw [sh1 (b k) (by omega), nI_or]
    refine m_qR k188 (As := [aI (nI 3)]) (sn_109 _ _ _ (q_cnt h (Or.inr (Or.inl rfl)))) rfl rfl (by omega) ?_
    rw [show cntV P r u 3 = nI x1 from hQ.h1.2]
    refine m_sg k188 1 (fun _ => rfl) trivial ?_
    obtain ⟨f, Z, of, ef, qf⟩ := q_vot h hk hQ.h1.1
    replace hq := hq.tr qf
    replace h := qf.s6 h
    refine m_qV k188 (As := [aI (nI x1), aI (nI k)]) (sn_124 _ _ _ _ ef) rfl rfl (by omega) ?_
    rw [of.uniq hQ.ho hk, c2]
    refine m_sg k188 7 (fun _ => rfl) trivial ?_
    rw [sh1 (c k) (by omega), nI_or]
    refine m_qV k188 (As := [aI (nI k), aI (nI 1)]) (sn_112 _ _ _ _ (q_knd h hk (by omega))) rfl rfl (by omega) ?_
    rw [show kndV P r n k 1 = nI (wkN r n k) from rfl]
    refine m_sg k188 6 (fun _ => rfl) trivial ?_
    rw [nI_add]
    refine m_qV k188 (As := [aI (nI k), aI (nI 2)]) (sn_112 _ _ _ _ (q_knd h hk (by omega))) rfl rfl (by omega) ?_
    rw [show kndV P r n k 2 = nI (x k) from hQ.hx.1 k hk]
    refine m_sg k188 5 (fun _ => rfl) trivial ?_
    rw [nI_add (sumQ x k)]
    obtain ⟨Z2, ef2, qf2⟩ := q_pts h hk
    refine m_qV k188 (As := [aI (nI k)]) (sn_119 _ _ _ ef2) rfl rfl (by omega) ?_
    replace hq := hq.tr qf2
    replace h := qf2.s6 h
    rw [pk_e hG.2.2.2.2.2.2.1 hQ.hw hk]
    refine m_sg k188 6 (fun _ => rfl) trivial ?_
    rw [nI_add (sumQ (pkN P r w) k)]
    obtain ⟨p0, hp0, ep0⟩ := hQ.hb2 k hk
    have hs := srch_lt (p := fun p => decide (r (10 + p) = nI k)) hp0 (decide_eq_true (by rw [(hQ.hb p0 hp0).2, ep0]))
    have hy := of_decide_eq_true (srch_yes hs)
    refine m_qV k188 (As := [aI (nI k), aI (nI 3)]) (sn_112 _ _ _ _ (q_knd h hk (by omega))) rfl rfl (by omega) ?_
    rw [show kndV P r n k 3 = nI (srch (fun p => decide (r (10 + p) = nI k)) P.1) from rfl]
    refine m_qV k188 (As := [aI (nI (srch (fun p => decide (r (10 + p) = nI k)) P.1))]) (sn_114 _ _ _ (q_ord h hs)) rfl rfl (by omega) ?_
    rw [hy]
    refine m_sg k188 1 (fun _ => rfl) trivial ?_
    refine m_icmp_ne k188 rfl (fun z => absurd rfl z) (fun _ => ?_)
    refine m_sg k188 3 (fun _ => rfl) trivial ?_
    refine m_qV k188 (As := [aI (nI k), aI (nI 1)]) (sn_112 _ _ _ _ (q_knd h hk (by omega))) rfl rfl (by omega) ?_
    rw [show kndV P r n k 1 = nI (wkN r n k) from rfl]
    have hwle : wkN r n k ≤ n := cntN_le _ _
    have fin : ∀ R9, R + 30 * j ≤ R9 → WL L 188 9 300 R9 149 [(0, aR 0 0), (1, aI (nI P.1)), (2, aI (nI P.2.1)), (3, aI (nI (orN b k ||| 2 ^ b k))), (4, aI (nI (orN c k ||| 2 ^ c k))), (5, aI (nI (sumQ (wkN r n) k + wkN r n k))), (6, aI (nI (sumQ x k + x k))), (7, aI (nI (sumQ (pkN P r w) k + pkN P r w k))), (8, aI (nI k))] [] Z2 Q nX := fun R9 hR9 => by
      refine m_le hR9 ?_
      refine m_sg k188 2 (fun _ => rfl) trivial ?_
      rw [show nI k + 1 = nI (k + 1) from nI_1 k]
      exact c_188a hQ kk j (k + 1) Z2 (by omega) hq h
    refine m_if_le k188 rfl (fun _ => fin _ (by omega)) (fun z => ?_)
    have hpos : 0 < wkN r n k := Nat.pos_of_ne_zero fun q => z (by rw [q]; decide)
    obtain ⟨i, hi, ei, el⟩ := q_lin h hk hpos
    have hin : inLS r (nI k) i = true := by
      have hne : ¬ n ≤ lineN r n (nI k) (nI 0) := fun q => by
        rw [inLineS_eq, ble_t q, cnd_t] at ei
        exact m1_ne_nI (by omega) ei
      have hlt : lineN r n (nI k) (nI 0) < n := by omega
      have e2 : lineN r n (nI k) (nI 0) = i := by
        rw [inLineS_eq, ble_f hlt, cnd_f] at ei
        exact (nI_eq (by omega) (by omega)).mp ei
      have hy2 := srch_yes (p := fun i => inLS r (nI k) i && decide (nI (ahN r n i) = nI 0)) hlt
      rw [show srch (fun i => inLS r (nI k) i && decide (nI (ahN r n i) = nI 0)) n = i from e2] at hy2
      exact (Bool.and_eq_true_iff.mp hy2).1
    have hk2 : rq r i 2 = nI k := inLS_k hin
    have e5 : kndV P r n k 5 = rq r i 0 := by
      show (if inLineS r n (nI k) (nI 0) = (-1 : Int32) then (-1 : Int32) else rq r (ix (inLineS r n (nI k) (nI 0))) 0) = _
      rw [ei, if_neg (nI_ne_m1 (by omega)), ix_nI (by omega)]
    have es : sres (fun j => decide (rq r j 0 = rq r i 0)) n = nI i := by
      have hl := srch_lt (p := fun j => decide (rq r j 0 = rq r i 0)) hi (decide_eq_true rfl)
      rw [sres_f hl]
      exact congrArg nI (ser_ne hG.2.2.2.2.2.2.2.1 hG.2.1.2.2 hl hi (of_decide_eq_true (srch_yes hl)))
    refine m_sg k188 3 (fun _ => rfl) trivial ?_
    refine m_qV k188 (As := [aI (nI k), aI (nI 0)]) (sn_116 _ _ _ _ el) rfl rfl (by omega) ?_
    refine m_sg k188 3 (fun _ => rfl) trivial ?_
    refine m_qV k188 (As := [aI (nI k), aI (nI 5)]) (sn_112 _ _ _ _ (q_knd h hk (by omega))) rfl rfl (by omega) ?_
    rw [e5]
    refine m_icmp_ne k188 rfl (fun z => absurd rfl z) (fun _ => ?_)
    refine m_sg k188 4 (fun _ => rfl) trivial ?_
    refine m_qV k188 (As := [aI (nI k), aI (nI 0)]) (sn_116 _ _ _ _ el) rfl rfl (by omega) ?_
    refine m_sg k188 1 (fun _ => rfl) trivial ?_
    refine m_qV k188 (As := [aI (rq r i 0), aI (nI 1)]) (sn_115 _ _ _ _ (q_req h hi es)) rfl rfl (by omega) ?_
    rw [hk2]
    refine m_sg k188 1 (fun _ => rfl) trivial ?_
    exact m_icmp_eq k188 rfl (fun _ => fin _ (by omega)) (fun z => absurd rfl z)
theorem c_188b {L R : Nat} {Y0 : Sm} {P : Pm} {tu ro t n m s u pos : Nat} {r : Nat → Int32} {b c x y w : Nat → Nat} {x1 : Nat} {fo : Nat → Int32} {Q : Option Av → Sm → Prop} (hQ : SQ P r t n m s b c x y w x1 fo) (kk : ∀ Y, QC Y0 Y → S6 Y P tu ro r t n m s u pos → WL L 188 9 300 R 274 [(0, aR 0 0), (1, aI (nI P.1)), (2, aI (nI P.2.1)), (3, aI (nI (orN b P.1))), (4, aI (nI (orN c P.1))), (5, aI (nI (sumQ (wkN r n) P.1))), (6, aI (nI (sumQ x P.1))), (7, aI (nI (sumQ (pkN P r w) P.1))), (8, aI (nI (sumQ (wgt P r w) P.2.1))), (9, aI (sumN (fun _ => true) (fun a => r (28 + a)) P.2.1)), (10, aI (nI (sumQ (okN r n) P.2.1))), (11, aI (nI (sumQ y P.2.1))), (12, aI (nI P.2.1))] [] Y Q nX) : ∀ j k Y, k + j = P.2.1 → QC Y0 Y → S6 Y P tu ro r t n m s u pos → WL L 188 9 300 (R + 14 * j) 170 [(0, aR 0 0), (1, aI (nI P.1)), (2, aI (nI P.2.1)), (3, aI (nI (orN b P.1))), (4, aI (nI (orN c P.1))), (5, aI (nI (sumQ (wkN r n) P.1))), (6, aI (nI (sumQ x P.1))), (7, aI (nI (sumQ (pkN P r w) P.1))), (8, aI (nI (sumQ (wgt P r w) k))), (9, aI (sumN (fun _ => true) (fun a => r (28 + a)) k)), (10, aI (nI (sumQ (okN r n) k))), (11, aI (nI (sumQ y k))), (12, aI (nI k))] [] Y Q nX
  | 0, k, Y, hj, hq, h => by
    have h3 := h.h3
    have hk : k = P.2.1 := by omega
    subst hk
    refine m_sg k188 2 (fun _ => rfl) trivial ?_
    exact m_icmp_ge k188 rfl (fun _ => kk Y hq h) (fun z => absurd (nI_le (Nat.le_refl _) (by omega)) z)
  | j + 1, k, Y, hj, hq, h => by
    have h3 := h.h3
    have hk : k < P.2.1 := by omega
    have hG := h.gr
    obtain ⟨⟨x0, hx0, ex0⟩, -, ⟨x3, hx3, ex3⟩⟩ := hG.2.2.2.2.2.2.2.2.2.1 k hk
    refine m_sg k188 2 (fun _ => rfl) trivial ?_
    refine m_icmp_ge k188 rfl (fun z => absurd z (nI_ge hk (by omega))) (fun _ => ?_)
    refine m_sg k188 4 (fun _ => rfl) trivial ?_
    refine m_qV k188 (As := [aI (nI k), aI (nI 4)]) (sn_111 _ _ _ _ (q_ask h hk (by omega))) rfl rfl (by omega) ?_
    rw [show askV P r n k 4 = bI (decide (r (36 + k) < P.2.2.1 4)) from rfl]
    have hd : hdS P r (-1 : Int32) k = decide (r (36 + k) < P.2.2.1 4) := by
      unfold hdS
      rw [decide_eq_false (nI_ne_m1 (by omega))]
      rfl
    refine m_sg k188 1 (fun _ => rfl) trivial ?_
    have fin : ∀ R9 g, g = wgt P r w k → R + 14 * j + 10 ≤ R9 → WL L 188 9 300 R9 200 [(0, aR 0 0), (1, aI (nI P.1)), (2, aI (nI P.2.1)), (3, aI (nI (orN b P.1))), (4, aI (nI (orN c P.1))), (5, aI (nI (sumQ (wkN r n) P.1))), (6, aI (nI (sumQ x P.1))), (7, aI (nI (sumQ (pkN P r w) P.1))), (8, aI (nI (sumQ (wgt P r w) k))), (9, aI (sumN (fun _ => true) (fun a => r (28 + a)) k)), (10, aI (nI (sumQ (okN r n) k))), (11, aI (nI (sumQ y k))), (12, aI (nI k))] [aI (nI g), aI (nI (sumQ (wgt P r w) k))] Y Q nX := fun R9 g hg hR9 => by
      subst hg
      refine m_le hR9 ?_
      refine m_sg k188 6 (fun _ => rfl) trivial ?_
      rw [nI_add (sumQ (wgt P r w) k)]
      refine m_qV k188 (As := [aI (nI k), aI (nI 1)]) (sn_111 _ _ _ _ (q_ask h hk (by omega))) rfl rfl (by omega) ?_
      rw [show askV P r n k 1 = r (28 + k) from rfl]
      refine m_sg k188 6 (fun _ => rfl) trivial ?_
      refine m_qV k188 (As := [aI (nI k), aI (nI 6)]) (sn_111 _ _ _ _ (q_ask h hk (by omega))) rfl rfl (by omega) ?_
      rw [show askV P r n k 6 = nI (okN r n k) from rfl]
      refine m_sg k188 6 (fun _ => rfl) trivial ?_
      rw [nI_add (sumQ (okN r n) k)]
      refine m_qV k188 (As := [aI (nI k), aI (nI 7)]) (sn_111 _ _ _ _ (q_ask h hk (by omega))) rfl rfl (by omega) ?_
      rw [show askV P r n k 7 = nI (y k) from hQ.hy.1 k hk]
      refine m_sg k188 5 (fun _ => rfl) trivial ?_
      rw [nI_add (sumQ y k)]
      refine m_qV k188 (As := [aI (nI k), aI (nI 0)]) (sn_111 _ _ _ _ (q_ask h hk (by omega))) rfl rfl (by omega) ?_
      rw [show askV P r n k 0 = nI x0 from ex0]
      refine m_sg k188 1 (fun _ => rfl) trivial ?_
      refine m_icmp_gt k188 rfl (fun z => absurd z (nI_nlt (a := 999) hx0 (by omega))) (fun _ => ?_)
      refine m_sg k188 3 (fun _ => rfl) trivial ?_
      refine m_qV k188 (As := [aI (nI k), aI (nI 3)]) (sn_111 _ _ _ _ (q_ask h hk (by omega))) rfl rfl (by omega) ?_
      rw [show askV P r n k 3 = nI x3 from ex3]
      refine m_sg k188 1 (fun _ => rfl) trivial ?_
      refine m_icmp_le k188 rfl (fun _ => ?_) (fun z => absurd (nI_le (b := 99) hx3 (by omega)) z)
      refine m_sg k188 2 (fun _ => rfl) trivial ?_
      rw [show nI k + 1 = nI (k + 1) from nI_1 k]
      exact m_le (by omega) (c_188b hQ kk j (k + 1) Y (by omega) hq h)
    cases hdec : decide (r (36 + k) < P.2.2.1 4) with
    | false =>
      refine m_icmp_ne k188 rfl (fun _ => ?_) (fun z => absurd z (by decide))
      refine m_sg k188 1 (fun _ => rfl) trivial ?_
      exact fin _ 0 (if_neg (by rw [hd, hdec]; decide)).symm (by omega)
    | true =>
      refine m_icmp_ne k188 rfl (fun z => absurd rfl z) (fun _ => ?_)
      refine m_sg k188 3 (fun _ => rfl) trivial ?_
      refine m_qV k188 (As := [aI (nI k), aI (nI 2)]) (sn_111 _ _ _ _ (q_ask h hk (by omega))) rfl rfl (by omega) ?_
      rw [show askV P r n k 2 = nI (w k) from (hQ.hw k hk).2]
      refine m_sg k188 1 (fun _ => rfl) trivial ?_
      exact fin _ (w k) (if_pos (by rw [hd, hdec])).symm (by omega)
theorem c_188 {L : Nat} {Y : Sm} {P : Pm} {tu ro t n m s u pos : Nat} {r : Nat → Int32} (h : S6 Y P tu ro r t n m s u pos) : ML L 9 300 188 [aR 0 0, aI (nI P.1), aI (nI P.2.1)] Y (fun w Z => w = some (aI (nI 1)) ∧ QC Y Z) nX := by
  have h3 := h.h3
  obtain ⟨b, c, x, y, w, x1, fo, hQ⟩ := sq_ex h
  refine ML_of [(0, aR 0 0), (1, aI (nI P.1)), (2, aI (nI P.2.1))] ?_
  refine m_sg k188 12 (fun _ => rfl) trivial ?_
  refine m_le (n := 142 + 30 * P.1) (by omega) ?_
  refine c_188a (R := 142) (Y0 := Y) hQ (fun Y1 hq1 h1 => ?_) P.1 0 Y (by omega) QC.rf h
  refine m_sg k188 10 (fun _ => rfl) trivial ?_
  refine m_le (n := 30 + 14 * P.2.1) (by omega) ?_
  refine c_188b (R := 30) (Y0 := Y) hQ (fun Y2 hq h => ?_) P.2.1 0 Y1 (by omega) hq1 h1
  have hG := h.gr
  have hB := hG.2.2.2.2.2.2.1
  have hn := hG.2.1.1
  have hob : orN b P.1 = 2 ^ P.1 - 1 := orN_all (fun p hp => (hQ.hb p hp).1) hQ.hb2
  have hoc : orN c P.1 = 2 ^ P.1 - 1 := orN_all (fun p hp => (hQ.hc p hp).1) hQ.hc2
  have hwk : sumQ (wkN r n) P.1 = cntN (waitS r) n := waits_k h3.2.1 hG
  have hok : sumQ (okN r n) P.2.1 = cntN (waitS r) n := waits_a h3.2.2.2 hG
  have hpk : sumQ (pkN P r w) P.1 = sumQ (wgt P r w) P.2.1 * (P.1 * (P.1 - 1) / 2) := pts_all h3.2.1 hB
  have h2p : 1 ≤ 2 ^ P.1 := Nat.one_le_two_pow
  have hW : sumQ (wgt P r w) P.2.1 ≤ 99 * P.2.1 := by
    have : ∀ j, j ≤ P.2.1 → sumQ (wgt P r w) j ≤ 99 * j := fun j => by
      induction j with
      | zero => intro _; exact Nat.le_refl _
      | succ j ih =>
        intro hj
        show sumQ (wgt P r w) j + wgt P r w j ≤ _
        have h1 := ih (by omega)
        have h2 : wgt P r w j ≤ 99 := by
          unfold wgt
          split
          · exact (hQ.hw j (by omega)).1
          · omega
        omega
    exact this _ (Nat.le_refl _)
  rw [hob, hoc, hwk, hok, hpk, hQ.hx.2, hQ.hy.2]
  refine m_sg k188 6 (fun _ => rfl) trivial ?_
  rw [sh1 P.1 (by omega), show nI (2 ^ P.1) - 1 = nI (2 ^ P.1 - 1) from nI_sb h2p]
  refine m_icmp_ne k188 rfl (fun z => absurd rfl z) (fun _ => ?_)
  refine m_sg k188 2 (fun _ => rfl) trivial ?_
  refine m_icmp_ne k188 rfl (fun z => absurd rfl z) (fun _ => ?_)
  refine m_sg k188 3 (fun _ => rfl) trivial ?_
  refine m_qR k188 (As := [aI (nI 9)]) (sn_109 _ _ _ (q_cnt h (Or.inr (Or.inr (Or.inl rfl))))) rfl rfl (by omega) ?_
  rw [show cntV P r u 9 = nI (cntN (waitS r) n) from (wait_cnt hG).symm]
  refine m_icmp_ne k188 rfl (fun z => absurd rfl z) (fun _ => ?_)
  refine m_sg k188 2 (fun _ => rfl) trivial ?_
  refine m_icmp_ne k188 rfl (fun z => absurd rfl z) (fun _ => ?_)
  refine m_sg k188 3 (fun _ => rfl) trivial ?_
  refine m_qR k188 (As := [aI (nI 10)]) (sn_109 _ _ _ (q_cnt h (Or.inr (Or.inr (Or.inr (Or.inl rfl)))))) rfl rfl (by omega) ?_
  rw [show cntV P r u 10 = nI m from hG.1.2.2.1]
  refine m_icmp_ne k188 rfl (fun z => absurd rfl z) (fun _ => ?_)
  refine m_sg k188 2 (fun _ => rfl) trivial ?_
  refine m_icmp_ne k188 rfl (fun z => absurd rfl z) (fun _ => ?_)
  refine m_sg k188 2 (fun _ => rfl) trivial ?_
  refine m_qR k188 (As := []) (sn_132 _ _ (q_dbt h)) rfl rfl (by omega) ?_
  refine m_icmp_eq k188 rfl (fun _ => ?_) (fun z => absurd rfl z)
  refine m_sg k188 10 (cs' := [¬ (2 : Int32) = 0]) (fun _ => rfl) (show ¬ (2 : Int32) = 0 by decide) ?_
  have hlt : sumQ (wgt P r w) P.2.1 * P.1 * (P.1 - 1) < 2 ^ 31 := by
    have e1 : sumQ (wgt P r w) P.2.1 * P.1 ≤ 792 * 5 := Nat.mul_le_mul (by omega) h3.2.1
    have e2 : sumQ (wgt P r w) P.2.1 * P.1 * (P.1 - 1) ≤ 792 * 5 * 4 := Nat.mul_le_mul e1 (by omega)
    omega
  rw [nI_ml, show nI P.1 - 1 = nI (P.1 - 1) from nI_sb h3.1, nI_ml, show nI (sumQ (wgt P r w) P.2.1 * P.1 * (P.1 - 1)) / 2 = nI (sumQ (wgt P r w) P.2.1 * P.1 * (P.1 - 1) / 2) from nI_dv (b := 2) hlt (by omega), half ⟨h3.1, h3.2.1⟩]
  refine m_icmp_ne k188 rfl (fun z => absurd rfl z) (fun _ => ?_)
  obtain ⟨a, ha, ea⟩ := hG.2.2.2.1
  have e12 : cntV P r u 12 = nI a := ea
  refine m_sg k188 2 (fun _ => rfl) trivial ?_
  refine m_qR k188 (As := [aI (nI 12)]) (sn_109 _ _ _ (q_cnt h (Or.inr (Or.inr (Or.inr (Or.inr (Or.inr (Or.inl rfl)))))))) rfl rfl (by omega) ?_
  rw [e12]
  refine m_if_lt k188 rfl (fun z => absurd z (nI_pos (by omega))) (fun _ => ?_)
  refine m_sg k188 2 (fun _ => rfl) trivial ?_
  refine m_qR k188 (As := [aI (nI 12)]) (sn_109 _ _ _ (q_cnt h (Or.inr (Or.inr (Or.inr (Or.inr (Or.inr (Or.inl rfl)))))))) rfl rfl (by omega) ?_
  rw [e12]
  refine m_sg k188 1 (fun _ => rfl) trivial ?_
  refine m_icmp_lt k188 rfl (fun _ => ?_) (fun z => absurd (nI_lt ha (by omega)) z)
  refine m_sg k188 1 (fun _ => rfl) trivial ?_
  obtain ⟨Z, eZ, qZ⟩ := q_chp h
  refine m_qR k188 (As := []) (sn_123 _ _ eZ) rfl rfl (by omega) ?_
  replace hq := hq.tr qZ
  replace h := qZ.s6 h
  refine m_sg k188 3 (fun _ => rfl) trivial ?_
  refine m_icmp_eq k188 rfl (fun _ => ?_) (fun z => ?_)
  · refine m_sg k188 2 (fun _ => rfl) trivial ?_
    exact m_zreturn k188 (Or.inr rfl) ⟨rfl, hq⟩
  · cases ha9 : anyS P r (-1 : Int32) with
    | false => first | (rw [cnd_f] at z; exact absurd rfl z) | (rw [ha9, cnd_f] at z; exact absurd rfl z)
    | true =>
      rw [ha9] at z
      rw [cnd_t] at z ⊢
      rcases sres_c (fun k => decide (nI (winsS P r (-1 : Int32) k) = nI (P.1 - 1))) P.1 with e | ⟨i, hi, pi, e⟩
      · rw [e] at z; exact absurd rfl z
      · rw [e]
        have hwl := winsS_le P r (-1 : Int32) i
        have hwi : winsS P r (-1 : Int32) i = P.1 - 1 := (nI_eq (by omega) (by omega)).mp (of_decide_eq_true pi)
        refine m_sg k188 2 (fun _ => rfl) trivial ?_
        obtain ⟨Z2, eZ2, qZ2⟩ := q_wins h hi
        refine m_qV k188 (As := [aI (nI i)]) (sn_122 _ _ _ eZ2) rfl rfl (by omega) ?_
        replace hq := hq.tr qZ2
        replace h := qZ2.s6 h
        rw [hwi]
        refine m_sg k188 3 (fun _ => rfl) trivial ?_
        rw [show nI P.1 - 1 = nI (P.1 - 1) from nI_sb h3.1]
        refine m_icmp_ne k188 rfl (fun z => absurd rfl z) (fun _ => ?_)
        refine m_sg k188 3 (fun _ => rfl) trivial ?_
        obtain ⟨f, Z3, of, ef, qf⟩ := q_vot h (k := 0) (x := 2) h3.1 (by omega)
        refine m_qV k188 (As := [aI (nI 2), aI (nI 0)]) (sn_124 _ _ _ _ ef) rfl rfl (by omega) ?_
        rw [champ h.pn hi ha9 hwi of]
        refine m_sg k188 1 (fun _ => rfl) trivial ?_
        refine m_icmp_ne k188 rfl (fun z => absurd rfl z) (fun _ => ?_)
        refine m_sg k188 2 (fun _ => rfl) trivial ?_
        exact m_zreturn k188 (Or.inr rfl) ⟨rfl, hq.tr qf⟩
