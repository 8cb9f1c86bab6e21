/-! the law's act, walked (printed by wip/p53/new/xv.py) -/
theorem TkN.mle {P : Pm} {tu ro t s k n m n' m' : Nat} {r r' : Nat → Int32} (hd : P.1 ≤ 5 ∧ P.2.1 ≤ 8) (h : TkN P tu ro t s k n m r n' m' r') : m ≤ m' := by
  obtain ⟨R, N, M, ⟨a1, a2, a3⟩, ⟨b1, b2, b3⟩, hc⟩ := h
  have key : ∀ j, j ≤ k → m ≤ M j := fun j => by
    induction j with
    | zero => intro _; rw [a3]; exact Nat.le_refl _
    | succ j ih => intro hj; exact Nat.le_trans (ih (by omega)) (AnI.up hd (hc j (by omega)).2).1
  rw [← b3]
  exact key k (Nat.le_refl _)
/-- what an act leaves -/
def AP (P : Pm) (tu ro t s : Nat) (w : Option Av) (Z : Sm) : Prop := ∃ v r' t' n' m' s' u' pos', v < 2 ^ 31 ∧ w = some (aI (nI v)) ∧ S6 Z P tu ro r' t' n' m' s' u' pos' ∧ t' ≤ t + 9 ∧ s' ≤ s + 1
theorem c_187 {L k : Nat} {Y : Sm} {P : Pm} {tu ro t n m s u pos : Nat} {r : Nat → Int32} (hL : L ≤ 3072) (hk : k ≤ 1000) (h : S6 Y P tu ro r t n m s u pos) (hs : s ≤ 100) (ht : t ≤ 1000) : ML L 11 4 187 [aR 0 0, aR 68 0, aI (nI k), aI (nI P.1), aI (nI P.2.1)] Y (AP P tu ro t s) nX := by
  have h3 := h.h3
  have hG := h.gr
  have hms := hG.2.1.2.1
  have e1 : nI P.1 - 1 = nI (P.1 - 1) := nI_sb h3.1
  have e2 : nI P.2.1 - 1 = nI (P.2.1 - 1) := nI_sb h3.2.2.1
  have e4 : (4 : Int32) * nI k = nI (4 * k) := nI_ml 4 k
  have ek1 : nI (4 * k) + 1 = nI (4 * k + 1) := nI_add _ 1
  have ek2 : nI (4 * k) + 2 = nI (4 * k + 2) := nI_add _ 2
  have ek3 : nI (4 * k) + 3 = nI (4 * k + 3) := nI_add _ 3
  refine ML_of [(0, aR 0 0), (1, aR 68 0), (2, aI (nI k)), (3, aI (nI P.1)), (4, aI (nI P.2.1))] ?_
  refine m_sg k187 8 (fun _ => rfl) trivial ?_
  rw [e4]
  refine m_xS k187 (n := 4) (As := [aR 68 0, aI (nI (4 * k)), aI (nI 0), aI (nI 7)]) (c_181 hL (by omega) (by omega) (by omega)) nX_no rfl rfl (fun w Z h9 => ?_)
  obtain ⟨e9, x, -, hx, rfl⟩ := h9
  cases e9
  have asks : WL L 187 11 4 4 52 [(0, aR 0 0), (1, aR 68 0), (2, aI (nI k)), (3, aI (nI P.1)), (4, aI (nI P.2.1)), (5, aI 0)] [] Y (AP P tu ro t s) nX := by
    refine m_sg k187 2 (fun _ => rfl) trivial ?_
    refine m_qR k187 (As := [aI (nI 11)]) (sn_109 _ _ _ (q_cnt h (Or.inr (Or.inr (Or.inr (Or.inr (Or.inl rfl))))))) rfl rfl (by omega) ?_
    rw [show cntV P r u 11 = nI s from hG.1.2.2.2]
    refine m_sg k187 2 (fun _ => rfl) trivial ?_
    refine m_qR k187 (As := [aI (nI 10)]) (sn_109 _ _ _ (q_cnt h (Or.inr (Or.inr (Or.inr (Or.inl rfl)))))) rfl rfl (by omega) ?_
    rw [show cntV P r u 10 = nI m from hG.1.2.2.1]
    refine m_sg k187 2 (fun _ => rfl) trivial ?_
    rw [nI_sb (by omega : m ≤ s)]
    refine m_icmp_ge k187 rfl (fun _ => ?_) (fun z => ?_)
    · refine m_sg k187 1 (fun _ => rfl) trivial ?_
      exact m_ireturn k187 ⟨0, r, t, n, m, s, u, pos, by omega, rfl, h, by omega, by omega⟩
    · have hlt : s - m < 30 := Nat.lt_of_not_le fun q => z (nI_le (a := 30) q (by omega))
      refine m_sg k187 11 (fun _ => rfl) trivial ?_
      rw [e4, ek1, e2]
      refine m_xS k187 (n := 4) (As := [aR 68 0, aI (nI (4 * k + 1)), aI (nI 0), aI (nI (P.2.1 - 1))]) (c_181 hL (by omega) (by omega) (by omega)) nX_no rfl rfl (fun w Z h9 => ?_)
      obtain ⟨e9, a, -, ha, rfl⟩ := h9
      cases e9
      refine m_sg k187 10 (fun _ => rfl) trivial ?_
      rw [e4, ek2, e1]
      refine m_xS k187 (n := 4) (As := [aR 68 0, aI (nI (4 * k + 2)), aI (nI 0), aI (nI (P.1 - 1))]) (c_181 hL (by omega) (by omega) (by omega)) nX_no rfl rfl (fun w Z h9 => ?_)
      obtain ⟨e9, c, -, hc, rfl⟩ := h9
      cases e9
      refine m_sg k187 8 (fun _ => rfl) trivial ?_
      rw [e4, ek3]
      refine m_xS k187 (n := 4) (As := [aR 68 0, aI (nI (4 * k + 3)), aI (nI 1), aI (nI 20)]) (c_181 hL (by omega) (by omega) (by omega)) nX_no rfl rfl (fun w Z h9 => ?_)
      obtain ⟨e9, l, hl1, hl2, rfl⟩ := h9
      cases e9
      obtain ⟨Z, eZ, hZ⟩ := c_askn h (x := a) (k := c) (l := l) (by omega) (by omega) ⟨hl1, hl2⟩ (by omega) (by omega)
      refine m_qV k187 (As := [aI (nI a), aI (nI c), aI (nI l)]) (sn_135 _ _ _ _ _ eZ) rfl rfl (by omega) ?_
      refine m_sg k187 1 (fun _ => rfl) trivial ?_
      exact m_ireturn k187 ⟨s, _, _, _, _, _, _, _, by omega, rfl, hZ, by omega, by omega⟩
  by_cases x6 : x < 6
  · have hx' : x = 0 ∨ x = 1 ∨ x = 2 ∨ x = 3 ∨ x = 4 ∨ x = 5 := by omega
    rcases hx' with rfl | rfl | rfl | rfl | rfl | rfl
    · exact m_swAt k187 0 rfl rfl rfl rfl rfl asks
    · exact m_swAt k187 1 rfl rfl rfl rfl rfl asks
    · refine m_swAt k187 2 rfl rfl rfl rfl rfl ?_
      refine m_sg k187 8 (fun _ => rfl) trivial ?_
      rw [e4, ek1]
      refine m_xS k187 (n := 4) (As := [aR 68 0, aI (nI (4 * k + 1)), aI (nI P.1)]) (c_186 hL (by omega) h3.1 h3.2.1) nX_no rfl rfl (fun w Z h9 => ?_)
      obtain ⟨e9, a, sg, ha, hsg, rfl⟩ := h9
      cases e9
      have hb : isB P.1 (nI (bcd P.1 a sg P.1)) = true := by
        have := bcd_isB P.1 (by omega) a ha
        rcases hsg with rfl | rfl
        · exact this.1
        · exact this.2
      obtain ⟨a2, Z, r', ha2, eZ, hZ⟩ := c_cst h hb
      refine m_qV k187 (As := [aI (nI (bcd P.1 a sg P.1))]) (sn_137 _ _ _ eZ) rfl rfl (by omega) ?_
      exact m_ireturn k187 ⟨a2, _, _, _, _, _, _, _, by omega, rfl, hZ, by omega, by omega⟩
    · refine m_swAt k187 3 rfl rfl rfl rfl rfl ?_
      refine m_sg k187 11 (fun _ => rfl) trivial ?_
      rw [e4, ek1, e2]
      refine m_xS k187 (n := 4) (As := [aR 68 0, aI (nI (4 * k + 1)), aI (nI 0), aI (nI (P.2.1 - 1))]) (c_181 hL (by omega) (by omega) (by omega)) nX_no rfl rfl (fun w Z h9 => ?_)
      obtain ⟨e9, a, -, ha, rfl⟩ := h9
      cases e9
      have ha' : a < P.2.1 := by omega
      obtain ⟨Z, eZ, hZ⟩ := c_pay h ha'
      obtain ⟨⟨x, hx2, ex⟩, ⟨y, hy, ey⟩, -⟩ := hG.2.2.2.2.2.2.2.2.2.1 a ha'
      rw [paid_n ex ey hx2 hy] at eZ
      refine m_qV k187 (As := [aI (nI a)]) (sn_139 _ _ _ eZ) rfl rfl (by omega) ?_
      refine m_sg k187 3 (fun _ => rfl) trivial ?_
      exact m_ireturn k187 ⟨_, _, _, _, _, _, _, _, (by split <;> omega : (if y ≤ x then y else x) < 2 ^ 31), rfl, hZ, by omega, by omega⟩
    · refine m_swAt k187 4 rfl rfl rfl rfl rfl ?_
      refine m_sg k187 11 (fun _ => rfl) trivial ?_
      rw [e4, ek1, e1]
      refine m_xS k187 (n := 4) (As := [aR 68 0, aI (nI (4 * k + 1)), aI (nI 0), aI (nI (P.1 - 1))]) (c_181 hL (by omega) (by omega) (by omega)) nX_no rfl rfl (fun w Z h9 => ?_)
      obtain ⟨e9, c, -, hc, rfl⟩ := h9
      cases e9
      refine m_sg k187 8 (fun _ => rfl) trivial ?_
      rw [e4, ek2]
      refine m_xS k187 (n := 4) (As := [aR 68 0, aI (nI (4 * k + 2)), aI (nI 0), aI (nI 3)]) (c_181 hL (by omega) (by omega) (by omega)) nX_no rfl rfl (fun w Z h9 => ?_)
      obtain ⟨e9, z, -, hz, rfl⟩ := h9
      cases e9
      have hc' : c < P.1 := by omega
      obtain ⟨Z, eZ, hZ⟩ := c_mnr h hc' hz
      obtain ⟨z0, hz0, ez0⟩ := h.2.2.2.2.1.2.2 c hc'
      rw [ez0] at eZ
      refine m_qV k187 (As := [aI (nI c), aI (nI z)]) (sn_141 _ _ _ _ eZ) rfl rfl (by omega) ?_
      refine m_sg k187 3 (fun _ => rfl) trivial ?_
      exact m_ireturn k187 ⟨z0, _, _, _, _, _, _, _, by omega, rfl, hZ, by omega, by omega⟩
    · refine m_swAt k187 5 rfl rfl rfl rfl rfl ?_
      refine m_sg k187 9 (fun _ => rfl) trivial ?_
      rw [e4, ek1]
      refine m_xS k187 (n := 4) (As := [aR 68 0, aI (nI (4 * k + 1)), aI (nI 0), aI (nI 2)]) (c_181 hL (by omega) (by omega) (by omega)) nX_no rfl rfl (fun w Z h9 => ?_)
      obtain ⟨e9, z, -, hz, rfl⟩ := h9
      cases e9
      obtain ⟨Z, eZ, hZ⟩ := c_tly h (x := z) (by omega)
      obtain ⟨z0, hz0, ez0⟩ := hG.2.2.1
      rw [ez0] at eZ
      refine m_qV k187 (As := [aI (nI z)]) (sn_140 _ _ _ eZ) rfl rfl (by omega) ?_
      refine m_sg k187 3 (fun _ => rfl) trivial ?_
      exact m_ireturn k187 ⟨z0, _, _, _, _, _, _, _, by omega, rfl, hZ, by omega, by omega⟩
  · refine m_swOut k187 rfl rfl rfl (fun j hj => ?_) ?_
    · intro e
      have hj : j < 6 := hj
      have := (nI_eq (by omega) (by omega)).mp e
      omega
    · refine m_sg k187 9 (fun _ => rfl) trivial ?_
      rw [e4, ek1]
      refine m_xS k187 (n := 4) (As := [aR 68 0, aI (nI (4 * k + 1)), aI (nI 1), aI (nI 9)]) (c_181 hL (by omega) (by omega) (by omega)) nX_no rfl rfl (fun w Z h9 => ?_)
      obtain ⟨e9, q, hq1, hq2, rfl⟩ := h9
      cases e9
      obtain ⟨n', m', r', hT, hG'⟩ := TkN.ex (tu := tu) (ro := ro) h3 hG q
      have hmm := hT.mle ⟨h3.2.1, h3.2.2.2⟩
      have hm' := hG'.2.1
      obtain ⟨Z, eZ, hZ, -⟩ := c_rn h ⟨hq1, by omega⟩ (by omega) (by omega) hT hG'
      rw [nI_sb hmm] at eZ
      refine m_qV k187 (As := [aI (nI q)]) (sn_134 _ _ _ eZ) rfl rfl (by omega) ?_
      refine m_sg k187 2 (fun _ => rfl) trivial ?_
      exact m_ireturn k187 ⟨m' - m, _, _, _, _, _, _, _, by omega, rfl, hZ, by omega, by omega⟩
