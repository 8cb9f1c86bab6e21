/-! the JDK's members that build a text, on the road of one byte a char -/
theorem nI_sb {a b : Nat} (h : b ≤ a) : nI a - nI b = nI (a - b) := by
  have e : nI a = nI (a - b) + nI b := by rw [nI_add, Nat.sub_add_cancel h]
  rw [e, Int32.add_sub_cancel]
theorem nI_sub_le {a b : Nat} (h : a ≤ b) (hb : b < 2 ^ 31) : nI a - nI b ≤ 0 := by
  rw [Int32.le_iff_toInt_le, Int32.toInt_sub, nI_toInt (by omega), nI_toInt hb, Int.bmod_eq_of_le (by omega) (by omega)]
  show (a : Int) - b ≤ 0
  omega
theorem shl0 (x : Int32) : x <<< ((0 : Int32) &&& 31) = x := by
  rw [show ((0 : Int32) &&& 31) = 0 by decide]
  exact Int32.shiftLeft_zero
theorem shr0 (x : Int32) : x >>> ((0 : Int32) &&& 31) = x := by
  rw [show ((0 : Int32) &&& 31) = 0 by decide]
  exact Int32.shiftRight_zero
theorem c_212 {L : Nat} {Y : Sm} (h1 : gI Y.1 49 0 1 = 0) : ML L 4 0 212 [aR 49 0] Y (Rt (some (aI 1)) Y) nX := by
  refine ML_of [(0, aR 49 0)] ?_
  refine m_getC k212 rfl jl_c16 ?_
  refine m_if_eq k212 rfl (fun h => absurd h (by decide)) (fun _ => ?_)
  refine m_sg k212 2 (fun _ => rfl) trivial ?_
  refine m_if_ne k212 rfl (fun h => absurd h1 h) (fun _ => ?_)
  refine m_sg k212 2 (fun _ => rfl) trivial ?_
  exact m_zreturn k212 (Or.inr rfl) ⟨rfl, rfl⟩
theorem c_213 {L c : Nat} {Y : Sm} (hc : c ≤ 255) : ML L 4 0 213 [aI (nI c)] Y (Rt (some (aI 1)) Y) nX := by
  refine ML_of [(0, aI (nI c))] ?_
  refine m_sg k213 2 (fun _ => rfl) trivial ?_
  refine m_icmp_gt k213 rfl (fun h => absurd h (nI_nlt (a := 255) hc (by omega))) (fun _ => ?_)
  refine m_sg k213 2 (fun _ => rfl) trivial ?_
  exact m_zreturn k213 (Or.inr rfl) ⟨rfl, rfl⟩
theorem c_228t {L j : Nat} {Y : Sm} : ML L 4 0 228 [aS j] Y (Rt (some (aI 0)) Y) nX := by
  refine ML_of [(0, aS j)] ?_
  refine m_getC k228 rfl jl_c14 ?_
  refine m_if_eq k228 rfl (fun h => absurd h (by decide)) (fun _ => ?_)
  refine m_sg k228 1 (fun _ => rfl) trivial ?_
  refine m_getTc k228 rfl jw_fC ?_
  refine m_sg k228 1 (fun _ => rfl) trivial ?_
  exact m_nreturn k228 ⟨rfl, rfl⟩ rfl rfl rfl
theorem c_227t {L j : Nat} {Y : Sm} (hj : j < txn) : ML L 5 0 227 [aS j] Y (Rt (some (aI (nI (slen j)))) Y) nX := by
  refine ML_of [(0, aS j)] ?_
  refine m_sg k227 1 (fun _ => rfl) trivial ?_
  refine m_getT k227 rfl jw_fV ?_
  refine m_alenT k227 hj rfl ?_
  refine m_sg k227 1 (fun _ => rfl) trivial ?_
  refine m_xT k227 (n := 0) (As := []) c_228t (nX_no) rfl (Or.inl rfl) jw_kLC rfl (fun w Z q => ?_)
  obtain ⟨rfl, rfl⟩ := q
  refine m_sg k227 1 (fun _ => rfl) trivial ?_
  rw [shr0]
  exact m_ireturn k227 ⟨rfl, rfl⟩
theorem txt_by : ∀ j, j < txn → ∀ i, i < slen j → fits .byte (.int (schr j i)) = true := by decide +kernel
theorem c_234 {L j N i p : Nat} {Y : Sm} (hj : j < txn) (hp : p + slen j ≤ N) (hN : N ≤ 6000) : ML L 5 0 234 [aS j, aR (1000 + N) i, aI (nI p), aI 0] Y (Rt none (cT Y.1 j (1000 + N) i 0 p (slen j), Y.2)) nX := by
  refine ML_of [(0, aS j), (1, aR (1000 + N) i), (2, aI (nI p)), (3, aI 0)] ?_
  refine m_sg k234 1 (fun _ => rfl) trivial ?_
  refine m_xT k234 (n := 0) (As := []) c_228t (nX_no) rfl (Or.inl rfl) jw_kLC rfl (fun w Z q => ?_)
  obtain ⟨rfl, rfl⟩ := q
  refine m_sg k234 1 (fun _ => rfl) trivial ?_
  refine m_icmp_ne k234 rfl (fun h => absurd rfl h) (fun _ => ?_)
  refine m_sg k234 1 (fun _ => rfl) trivial ?_
  refine m_getT k234 rfl jw_fV ?_
  refine m_sg k234 6 (fun _ => rfl) trivial ?_
  rw [shl0]
  refine m_getT k234 rfl jw_fV ?_
  refine m_alenT k234 hj rfl ?_
  have hs := (txt_ok j hj).1
  have e0 : ix (0 : Int32) = 0 := rfl
  refine m_copyT k234 rfl (by decide) hj (shp_b N) (txt_by j hj) (k68b N) (by decide) (nI_pos (by omega)) (nI_pos (by omega)) (by rw [e0, ix_nI (by omega)]; omega) (by rw [ix_nI (by omega), ix_nI (by omega)]; exact hp) ?_
  rw [e0, ix_nI (by omega : p < 2 ^ 31), ix_nI (by omega : slen j < 2 ^ 31)]
  refine m_sg k234 1 (fun _ => rfl) trivial ?_
  exact m_return k234 ⟨rfl, rfl⟩
theorem c_215 {L j : Nat} {Y : Sm} (h1 : gI Y.1 49 0 1 = 0) : ML L 5 0 215 [aR 49 0, aS j] Y (Rt none Y) nX := by
  refine ML_of [(0, aR 49 0), (1, aS j)] ?_
  refine m_getC k215 rfl jl_c16 ?_
  refine m_if_eq k215 rfl (fun h => absurd h (by decide)) (fun _ => ?_)
  refine m_sg k215 3 (fun _ => rfl) trivial ?_
  refine m_xT k215 (n := 0) (As := []) c_228t (nX_no) rfl (Or.inr rfl) jt_16_40 rfl (fun w Z q => ?_)
  obtain ⟨rfl, rfl⟩ := q
  refine m_icmp_eq k215 rfl (fun _ => ?_) (fun h => absurd h1 h)
  exact m_return k215 ⟨rfl, rfl⟩
theorem c_214 {L j N i p : Nat} {Y : Sm} (h1 : gI Y.1 49 0 1 = 0) (hr : sr Y.2 49 0 0 = some (1000 + N, i)) (hj : j < txn) (hp : p + slen j ≤ N) (hN : N ≤ 6000) : ML L 6 0 214 [aR 49 0, aI (nI p), aS j] Y (Rt none (cT Y.1 j (1000 + N) i 0 p (slen j), Y.2)) nX := by
  refine ML_of [(0, aR 49 0), (1, aI (nI p)), (2, aS j)] ?_
  refine m_sg k214 2 (fun _ => rfl) trivial ?_
  refine m_xU k214 (n := 0) (As := [aS j]) (c_215 h1) nX_no ju_16_397 rfl rfl rfl (fun w Z q => ?_)
  obtain ⟨rfl, rfl⟩ := q
  refine m_sg k214 2 (fun _ => rfl) trivial ?_
  refine m_getR k214 rfl rfl rfl rfl hr ?_
  refine m_sg k214 3 (fun _ => rfl) trivial ?_
  rw [h1]
  refine m_xT k214 (n := 0) (As := [aR (1000 + N) i, aI (nI p), aI 0]) (c_234 hj hp hN) (nX_no) rfl (Or.inr rfl) jt_16_399 rfl (fun w Z q => ?_)
  obtain ⟨rfl, rfl⟩ := q
  exact m_return k214 ⟨rfl, rfl⟩
theorem c_210 {L N a b : Nat} {Y : Sm} (h0 : 0 < N + max a b) (h : N + a + b ≤ 6000) : ML L 4 0 210 [aI (nI N), aI (nI a), aI (nI b)] Y (Rt (some (aI (nI (N + max a b)))) Y) nX := by
  refine ML_of [(0, aI (nI N)), (1, aI (nI a)), (2, aI (nI b))] ?_
  refine m_sg k210 6 (fun _ => rfl) trivial ?_
  have e : (if nI a < nI b then nI b else nI a) = nI (max a b) := by
    by_cases q : a < b
    · rw [if_pos (nI_lt q (by omega)), Nat.max_eq_right (by omega)]
    · rw [if_neg (nI_nlt (by omega) (by omega)), Nat.max_eq_left (by omega)]
  rw [e, nI_add]
  have hm : N + max a b ≤ 6000 := by omega
  refine m_sg k210 2 (fun _ => rfl) trivial ?_
  refine m_icmp_ge k210 rfl (fun h => absurd h (nI_nle h0 (by omega))) (fun _ => ?_)
  refine m_sg k210 2 (fun _ => rfl) trivial ?_
  refine m_icmp_gt k210 rfl (fun h => absurd h (nI_nlt (b := N + max a b) (a := 2147483639) (by omega) (by omega))) (fun _ => ?_)
  refine m_sg k210 1 (fun _ => rfl) trivial ?_
  exact m_ireturn k210 ⟨rfl, rfl⟩
/-- the capacity behind N where q is asked -/
def grw (N q : Nat) : Nat := N + max (q - N) (N + 2)
theorem c_209 {L N j q : Nat} {Y : Sm} (h1 : gI Y.1 49 0 1 = 0) (hr : sr Y.2 49 0 0 = some (1000 + N, j)) (hq : N < q) (hN : q ≤ 1000) : ML L 5 0 209 [aR 49 0, aI (nI q)] Y (Rt (some (aI (nI (grw N q)))) Y) nX := by
  refine ML_of [(0, aR 49 0), (1, aI (nI q))] ?_
  refine m_sg k209 1 (fun _ => rfl) trivial ?_
  refine m_getR k209 rfl rfl rfl rfl hr ?_
  refine m_alenB k209 rfl (shp_b N) (k68b N) ?_
  refine m_sg k209 18 (fun _ => rfl) trivial ?_
  rw [h1]
  simp only [shl0]
  rw [show nI N + 2 = nI (N + 2) from nI_add N 2, nI_sb (by omega : N ≤ q)]
  refine m_xS k209 (n := 0) (As := [aI (nI N), aI (nI (q - N)), aI (nI (N + 2))]) (c_210 (by omega) (by omega)) nX_no rfl rfl (fun w Z h => ?_)
  obtain ⟨rfl, rfl⟩ := h
  refine m_sg k209 3 (fun _ => rfl) trivial ?_
  refine m_icmp_ne k209 rfl (fun _ => ?_) (fun h => ?_)
  · refine m_sg k209 4 (fun _ => rfl) trivial ?_
    rw [h1, shr0]
    exact m_ireturn k209 ⟨rfl, rfl⟩
  · have h9 := (nI_eq (a := N + max (q - N) (N + 2)) (b := 2147483647) (by omega) (by omega)).mp h
    omega
theorem c_211 {L N i N' : Nat} {Y : Sm} (h : N < N') (hN : N' ≤ 702) (hf : ∀ j, j < N → fits .byte (.int (gI Y.1 (1000 + N) i j)) = true) : ML L 5 117 211 [aR (1000 + N) i, aI (nI N')] Y (fun w Z => w = some (aR (1000 + N') (cF Y.2 (1000 + N'))) ∧ Z = (cI Y.1 (1000 + N) i 0 (1000 + N') (cF Y.2 (1000 + N')) 0 N, (mkC Y (1000 + N')).2) ∧ ∀ j, gI Y.1 (1000 + N') (cF Y.2 (1000 + N')) j = 0) nX := by
  refine ML_of [(0, aR (1000 + N) i), (1, aI (nI N'))] ?_
  refine m_sg k211 2 (fun _ => rfl) trivial ?_
  refine m_alenB k211 rfl (shp_b N) (k68b N) ?_
  refine m_icmp_ne k211 rfl (fun _ => ?_) (fun h9 => ?_)
  · refine m_sg k211 1 (fun _ => rfl) trivial ?_
    refine m_newB (n := 0) k211 N' 117 rfl rfl (by omega) (fun hz => ?_)
    refine m_sg k211 6 (fun _ => rfl) trivial ?_
    refine m_alenB k211 rfl (shp_b N) (k68b N) ?_
    refine m_sg k211 2 (fun _ => rfl) trivial ?_
    rw [if_neg (nI_nlt (by omega) (by omega))]
    have e0 : ix (0 : Int32) = 0 := rfl
    have eN : ix (nI N) = N := ix_nI (by omega)
    refine m_copyB k211 rfl (by decide) (shp_b N) (shp_b N') (fun j hj => ?_) (k68b N) (k68b N') (by decide) (by decide) (nI_pos (by omega)) (by rw [e0, eN]; omega) (by rw [e0, eN]; omega) ?_
    · rw [eN] at hj
      rw [e0, Nat.zero_add]
      exact hf j hj
    rw [e0, eN]
    refine m_sg k211 1 (fun _ => rfl) trivial ?_
    exact m_areturn k211 ⟨rfl, rfl, hz⟩ rfl rfl (Or.inr ⟨_, rfl⟩) rfl
  · have := (nI_eq (by omega) (by omega)).mp h9
    omega
/-- the builder holds the bytes l, in row j of N places -/
def TB (Y : Sm) (N j : Nat) (l : List Int32) : Prop := sr Y.2 49 0 0 = some (1000 + N, j) ∧ j < Y.2 (2000 + (1000 + N)) ∧ gI Y.1 49 0 1 = 0 ∧ gI Y.1 49 0 3 = nI l.length ∧ l.length ≤ N ∧ N ≤ 700 ∧ (∀ q, q < l.length → gI Y.1 (1000 + N) j q = l.getD q 0) ∧ ∀ q, q < N → fits .byte (.int (gI Y.1 (1000 + N) j q)) = true
/-- nothing is touched but the builder and rows of bytes -/
def TK (Y Z : Sm) : Prop := (∀ k i j, k < 1000 → k ≠ 49 → gI Z.1 k i j = gI Y.1 k i j) ∧ Z.1.2 = Y.1.2 ∧ (∀ q, q ≤ 2999 → Z.2 q = Y.2 q) ∧ (∀ q, q ≠ 10000 → q ≠ 10001 → 7001 ≤ q → Z.2 q = Y.2 q)
theorem TK.refl {Y : Sm} : TK Y Y := ⟨fun _ _ _ _ _ => rfl, rfl, fun _ _ => rfl, fun _ _ _ _ => rfl⟩
theorem TK.trans {Y Z W : Sm} (h : TK Y Z) (h2 : TK Z W) : TK Y W := ⟨fun k i j a b => (h2.1 k i j a b).trans (h.1 k i j a b), h2.2.1.trans h.2.1, fun q a => (h2.2.2.1 q a).trans (h.2.2.1 q a), fun q a b c => (h2.2.2.2 q a b c).trans (h.2.2.2 q a b c)⟩
theorem c_208 {L N j q : Nat} {l : List Int32} {Y : Sm} (h : TB Y N j l) (hq : q ≤ 348) : ML L 6 117 208 [aR 49 0, aI (nI q)] Y (fun w Z => w = none ∧ TK Y Z ∧ ∃ N' j', TB Z N' j' l ∧ q ≤ N') nX := by
  obtain ⟨hr, hj, h1, h3, hl, hN, hb, hf⟩ := id h
  refine ML_of [(0, aR 49 0), (1, aI (nI q))] ?_
  refine m_sg k208 1 (fun _ => rfl) trivial ?_
  refine m_getR k208 rfl rfl rfl rfl hr ?_
  refine m_alenB k208 rfl (shp_b N) (k68b N) ?_
  refine m_sg k208 7 (fun _ => rfl) trivial ?_
  rw [h1, shr0]
  by_cases hqN : q ≤ N
  · refine m_if_le k208 rfl (fun _ => ?_) (fun h9 => ?_)
    · exact m_return k208 ⟨rfl, TK.refl, N, j, h, hqN⟩
    · exact absurd (nI_sub_le hqN (by omega)) h9
  · refine m_if_le k208 rfl (fun h9 => ?_) (fun _ => ?_)
    · rw [nI_sb (by omega)] at h9
      exact absurd h9 (nI_nle (by omega) (by omega))
    · refine m_sg k208 2 (fun _ => rfl) trivial ?_
      refine m_getR k208 rfl rfl rfl rfl hr ?_
      refine m_sg k208 2 (fun _ => rfl) trivial ?_
      refine m_xU k208 (n := 117) (As := [aI (nI q)]) (c_209 h1 hr (by omega) (by omega)) nX_no ju_16_104 rfl rfl rfl (fun w Z h9 => ?_)
      obtain ⟨rfl, rfl⟩ := h9
      refine m_sg k208 3 (fun _ => rfl) trivial ?_
      rw [h1, shl0]
      have hg : N < grw N q ∧ grw N q ≤ 700 ∧ q ≤ grw N q := by unfold grw; omega
      refine m_xS k208 (n := 0) (As := [aR (1000 + N) j, aI (nI (grw N q))]) (c_211 hg.1 (by omega) hf) nX_no rfl rfl (fun w Z h9 => ?_)
      obtain ⟨rfl, rfl, hz⟩ := h9
      refine m_pt49 k208 rfl (by omega) ?_
      have hk : ∀ k i j, k < 1000 → gI (cI Z.1 (1000 + N) j 0 (1000 + grw N q) (cF Z.2 (1000 + grw N q)) 0 N) k i j = gI Z.1 k i j := fun k i j hk => (cI_off (by omega) j).1
      have hcF : cF Z.2 (1000 + grw N q) = Z.2 (2000 + (1000 + grw N q)) := cF_x (by omega) (by omega) (by omega) (by omega)
      refine m_return k208 ⟨rfl, ⟨fun k i j hk9 _ => (cI_off (by omega) j).1, rfl, fun q9 h9 => ?_, fun q9 h9 h8 h7 => ?_⟩, grw N q, cF Z.2 (1000 + grw N q), ⟨sr_at49 (by omega), ?_, (cI_off (by omega) 1).1.trans h1, (cI_off (by omega) 3).1.trans h3, by omega, hg.2.1, fun q9 h9 => ?_, fun q9 h9 => ?_⟩, hg.2.2⟩
      · show ug (ug (ug Z.2 _ _) _ _) _ _ q9 = _
        rw [ug_ne (by omega), ug_ne (by omega), ug_ne (by omega)]
      · show ug (ug (ug Z.2 _ _) _ _) _ _ q9 = _
        rw [ug_ne (by omega), ug_ne (by omega), ug_ne (by omega)]
      · show _ < ug (ug (ug Z.2 (2000 + (1000 + grw N q)) _) _ _) _ _ (2000 + (1000 + grw N q))
        rw [ug_ne (by omega), ug_ne (by omega), ug_at, hcF]
        omega
      · show gI (cI Z.1 (1000 + N) j 0 (1000 + grw N q) (cF Z.2 (1000 + grw N q)) 0 N) _ _ q9 = _
        rw [cI_cpy]
        show (if 0 ≤ q9 ∧ q9 < 0 + N then _ else _) = _
        rw [if_pos (by omega), Nat.sub_zero, Nat.zero_add]
        exact hb q9 h9
      · show fits .byte (.int (gI (cI Z.1 (1000 + N) j 0 (1000 + grw N q) (cF Z.2 (1000 + grw N q)) 0 N) _ _ q9)) = true
        rw [cI_cpy]
        show fits .byte (.int (if 0 ≤ q9 ∧ q9 < 0 + N then _ else _)) = true
        by_cases h8 : q9 < N
        · rw [if_pos (by omega), Nat.sub_zero, Nat.zero_add]
          exact hf q9 h8
        · rw [if_neg (by omega), hz]
          rfl
