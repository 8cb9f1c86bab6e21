/-! a number is appended; the builder is made; the text is taken out of it and read -/
theorem gc1 : ∀ v, v < 100 → (-100 : Int32) < -(nI v) ∧ - -(nI v) = nI v := by decide +kernel
theorem gc2 : ∀ v, v < 10 → (-9 : Int32) ≤ -(nI v) := by decide +kernel
theorem gc3 : ∀ v, v < 100 → ¬ v < 10 → ¬ (-9 : Int32) ≤ -(nI v) := by decide +kernel
theorem dg1 : ∀ v, v < 100 → (dgt 1 v).toInt8.toInt32 = nI (48 + v % 10) := by decide +kernel
theorem dg2 : ∀ v, v < 100 → (dgt 2 v).toInt8.toInt32 = nI (48 + v / 10) := by decide +kernel
theorem nI_m1 {e : Nat} (h : 0 < e) : nI e + -1 = nI (e - 1) := by
  have : e = (e - 1) + 1 := by omega
  rw [this, nI_succ, Nat.add_sub_cancel, Int32.add_assoc, show (1 : Int32) + -1 = 0 by decide, Int32.add_zero]
theorem c_217 {L v e N i : Nat} {Y : Sm} (hv : v < 100) (he : dgn v ≤ e) (heN : e ≤ N) (hN : N ≤ 6000) : ML L 4 0 217 [aI (nI v), aI (nI e), aR (1000 + N) i] Y (fun w Z => (∃ x, w = some (aI x)) ∧ Z.2 = Y.2 ∧ Z.1.2 = Y.1.2 ∧ (∀ k' i' q, k' ≠ 1000 + N → gI Z.1 k' i' q = gI Y.1 k' i' q) ∧ ∀ q, gI Z.1 (1000 + N) i q = if e - dgn v ≤ q ∧ q < e then (digs v).getD (q - (e - dgn v)) 0 else gI Y.1 (1000 + N) i q) nX := by
  refine ML_of [(0, aI (nI v)), (1, aI (nI e)), (2, aR (1000 + N) i)] ?_
  have e1 : ix (nI v) = v := ix_nI (by omega)
  have hd1 : 1 ≤ dgn v := by unfold dgn; split <;> omega
  refine m_sg k217 3 (fun _ => rfl) trivial ?_
  refine m_if_ge k217 rfl (fun _ => ?_) (fun h => absurd (nI_pos' (by omega)) h)
  refine m_sg k217 3 (fun _ => rfl) trivial ?_
  refine m_if_ne k217 rfl (fun h => absurd rfl h) (fun _ => ?_)
  refine m_sg k217 5 (fun _ => rfl) trivial ?_
  refine m_icmp_gt k217 rfl (fun _ => ?_) (fun h => absurd (gc1 v hv).1 h)
  refine m_sg k217 3 (fun _ => rfl) trivial ?_
  rw [nI_m1 (by omega)]
  refine m_getD1 k217 rfl jl_d1 ?_
  refine m_sg k217 2 (fun _ => rfl) trivial ?_
  rw [(gc1 v hv).2]
  refine m_bald1 k217 rfl (nI_in hv (by omega)) ?_
  refine m_bastB k217 rfl (shp_b N) (k68b N) (nI_in (by omega : e - 1 < N) (by omega)) ?_
  rw [ix_nI (by omega : e - 1 < 2 ^ 31), e1, dg1 v hv]
  refine m_sg k217 2 (fun _ => rfl) trivial ?_
  by_cases h10 : v < 10
  · have hdn : dgn v = 1 := if_pos h10
    have hdg : digs v = [nI (48 + v)] := if_pos h10
    refine m_icmp_ge k217 rfl (fun _ => ?_) (fun h => absurd (gc2 v h10) h)
    refine m_sg k217 1 (fun _ => rfl) trivial ?_
    refine m_if_eq k217 rfl (fun _ => ?_) (fun h => absurd rfl h)
    refine m_sg k217 1 (fun _ => rfl) trivial ?_
    refine m_ireturn k217 ⟨⟨_, rfl⟩, rfl, rfl, fun k' i' q hk => by rw [gI_sIk hk], fun q => ?_⟩
    rw [gI_sI, hdn, hdg, Nat.mod_eq_of_lt h10]
    by_cases hq : q = e - 1
    · subst hq
      rw [if_pos ⟨rfl, rfl, rfl⟩, if_pos (by omega), Nat.sub_self]
      rfl
    · rw [if_neg (by omega), if_neg (by omega)]
  · have hdn : dgn v = 2 := if_neg h10
    have hdg : digs v = [nI (48 + v / 10), nI (48 + v % 10)] := if_neg h10
    refine m_icmp_ge k217 rfl (fun h => absurd h (gc3 v hv h10)) (fun _ => ?_)
    refine m_sg k217 3 (fun _ => rfl) trivial ?_
    rw [nI_m1 (by omega)]
    refine m_getD2 k217 rfl jl_d2 ?_
    refine m_sg k217 2 (fun _ => rfl) trivial ?_
    rw [(gc1 v hv).2]
    refine m_bald2 k217 rfl (nI_in hv (by omega)) ?_
    refine m_bastB k217 rfl (shp_b N) (k68b N) (nI_in (by omega : e - 1 - 1 < N) (by omega)) ?_
    rw [ix_nI (by omega : e - 1 - 1 < 2 ^ 31), e1, dg2 v hv]
    refine m_sg k217 1 (fun _ => rfl) trivial ?_
    refine m_if_eq k217 rfl (fun _ => ?_) (fun h => absurd rfl h)
    refine m_sg k217 1 (fun _ => rfl) trivial ?_
    refine m_ireturn k217 ⟨⟨_, rfl⟩, rfl, rfl, fun k' i' q hk => by rw [gI_sIk hk, gI_sIk hk], fun q => ?_⟩
    rw [gI_sI, gI_sI, hdn, hdg]
    by_cases hq : q = e - 1 - 1
    · subst hq
      rw [if_pos ⟨rfl, rfl, rfl⟩, if_pos (by omega), show e - 1 - 1 - (e - 2) = 0 by omega]
      rfl
    · rw [if_neg (by omega)]
      by_cases hq2 : q = e - 1
      · subst hq2
        rw [if_pos ⟨rfl, rfl, rfl⟩, if_pos (by omega), show e - 1 - (e - 2) = 1 by omega]
        rfl
      · rw [if_neg (by omega), if_neg (by omega)]
theorem dig_by : ∀ v, v < 100 → ∀ q, q < (digs v).length → fits .byte (.int ((digs v).getD q 0)) = true := by decide +kernel
theorem c_207 {L N j v : Nat} {l : List Int32} {Y : Sm} (h : TB Y N j l) (hv : v < 100) (hl : l.length + 2 ≤ 348) : ML L 7 117 207 [aR 49 0, aI (nI v)] Y (fun w Z => w = some (aR 49 0) ∧ TK Y Z ∧ ∃ N' j', TB Z N' j' (l ++ digs v)) nX := by
  refine ML_of [(0, aR 49 0), (1, aI (nI v))] ?_
  have hd1 : dgn v ≤ 2 := by unfold dgn; split <;> omega
  refine m_sg k207 5 (fun _ => rfl) trivial ?_
  refine m_xS k207 (n := 117) (As := [aI (nI v)]) (c_216 hv) nX_no rfl rfl (fun w W h9 => ?_)
  obtain ⟨rfl, rfl⟩ := h9
  refine m_sg k207 4 (fun _ => rfl) trivial ?_
  rw [h.2.2.2.1, nI_add]
  refine m_xU k207 (n := 0) (As := [aI (nI (l.length + dgn v))]) (c_208 h (by omega)) nX_no ju_16_100 rfl rfl rfl (fun w X h9 => ?_)
  obtain ⟨rfl, hK, N', j', hT, hq⟩ := h9
  have hN := hT.2.2.2.2.2.1
  refine m_sg k207 1 (fun _ => rfl) trivial ?_
  refine m_xU k207 (n := 0) (As := []) (c_212 hT.2.2.1) nX_no ju_16_83 rfl rfl rfl (fun w Z h9 => ?_)
  obtain ⟨rfl, rfl⟩ := h9
  refine m_if_eq k207 rfl (fun h => absurd h (by decide)) (fun _ => ?_)
  refine m_sg k207 3 (fun _ => rfl) trivial ?_
  refine m_getR k207 rfl rfl rfl rfl hT.1 ?_
  refine m_xS k207 (n := 0) (As := [aI (nI v), aI (nI (l.length + dgn v)), aR (1000 + N') j']) (c_217 hv (by omega) hq (by omega)) nX_no rfl rfl (fun w X h9 => ?_)
  obtain ⟨⟨x, rfl⟩, g2, g3, g4, g5⟩ := h9
  refine m_sw k207 5 (Z := sI X 49 0 3 (nI (l.length + dgn v))) (fun _ => rfl) rfl rfl ?_
  refine m_sg k207 1 (fun _ => rfl) trivial ?_
  refine m_areturn k207 ⟨rfl, TK.trans hK ⟨fun k i j9 hk hk9 => ?_, g3, fun q _ => congrFun g2 q, fun q _ _ _ => congrFun g2 q⟩, N', j', ?_⟩ rfl rfl (Or.inl ⟨_, rfl⟩) rfl
  · rw [gI_sIk hk9]
    exact g4 k i j9 (by omega)
  · refine hT.app g2 ?_ ?_ (by rw [digs_len]; exact hq) (dig_by v hv) (fun q => ?_)
    · show gI X.1 49 0 1 = 0
      rw [g4 49 0 1 (by omega)]
      exact hT.2.2.1
    · rw [gI_sIv, digs_len]
      rfl
    · rw [gI_sIk (by omega), g5 q, digs_len]
      have e : l.length + dgn v - dgn v = l.length := by omega
      rw [e]
theorem c_206 {L N j v : Nat} {l : List Int32} {Y : Sm} (h : TB Y N j l) (hv : v < 100) (hl : l.length + 2 ≤ 348) : ML L 8 117 206 [aR 49 0, aI (nI v)] Y (fun w Z => w = some (aR 49 0) ∧ TK Y Z ∧ ∃ N' j', TB Z N' j' (l ++ digs v)) nX := by
  refine ML_of [(0, aR 49 0), (1, aI (nI v))] ?_
  refine m_sg k206 2 (fun _ => rfl) trivial ?_
  refine m_xP k206 (n := 0) (As := [aI (nI v)]) (c_207 h hv hl) nX_no js_12_53 (by decide) rfl rfl (fun w Z h9 => ?_)
  obtain ⟨rfl, h9⟩ := h9
  refine m_sg k206 2 (fun _ => rfl) trivial ?_
  exact m_areturn k206 ⟨rfl, h9⟩ rfl rfl (Or.inl ⟨_, rfl⟩) rfl
theorem c_201 {L N : Nat} {Y : Sm} (h1 : gI Y.1 49 0 1 = 0) (h3 : gI Y.1 49 0 3 = 0) (hN : N ≤ 18) : ML L 4 3 201 [aR 49 0, aI (nI N)] Y (fun w Z => w = none ∧ TK Y Z ∧ ∃ N' j', TB Z N' j' []) nX := by
  refine ML_of [(0, aR 49 0), (1, aI (nI N))] ?_
  refine m_sg k201 2 (fun _ => rfl) trivial ?_
  refine m_getC k201 rfl jl_c16 ?_
  refine m_if_eq k201 rfl (fun h => absurd h (by decide)) (fun _ => ?_)
  refine m_sg k201 2 (fun _ => rfl) trivial ?_
  refine m_newB (n := 0) k201 N 3 rfl rfl (by omega) (fun hz => ?_)
  refine m_pt49 k201 rfl (by omega) ?_
  refine m_sg k201 2 (fun _ => rfl) trivial ?_
  refine m_same k201 rfl rfl rfl rfl rfl rfl h1 rfl rfl ?_
  refine m_sg k201 1 (fun _ => rfl) trivial ?_
  have hcF : cF Y.2 (1000 + N) = Y.2 (2000 + (1000 + N)) := cF_x (by omega) (by omega) (by omega) (by omega)
  refine m_return k201 ⟨rfl, ⟨fun _ _ _ _ _ => rfl, rfl, fun q9 h9 => ?_, fun q9 h9 h8 h7 => ?_⟩, N, cF Y.2 (1000 + N), ⟨sr_at49 (by omega), ?_, h1, h3, Nat.zero_le _, by omega, fun q hq => absurd hq (Nat.not_lt_zero q), fun q hq => ?_⟩⟩
  · show ug (ug (ug Y.2 _ _) _ _) _ _ q9 = _
    rw [ug_ne (by omega), ug_ne (by omega), ug_ne (by omega)]
  · show ug (ug (ug Y.2 _ _) _ _) _ _ q9 = _
    rw [ug_ne (by omega), ug_ne (by omega), ug_ne (by omega)]
  · show _ < ug (ug (ug Y.2 (2000 + (1000 + N)) _) _ _) _ _ (2000 + (1000 + N))
    rw [ug_ne (by omega), ug_ne (by omega), ug_at, hcF]
    omega
  · show fits .byte (.int (gI Y.1 (1000 + N) (cF Y.2 (1000 + N)) q)) = true
    rw [hz]
    rfl
theorem c_200 {L : Nat} {Y : Sm} (h1 : gI Y.1 49 0 1 = 0) (h3 : gI Y.1 49 0 3 = 0) : ML L 5 3 200 [aR 49 0] Y (fun w Z => w = none ∧ TK Y Z ∧ ∃ N' j', TB Z N' j' []) nX := by
  refine ML_of [(0, aR 49 0)] ?_
  refine m_sg k200 2 (fun _ => rfl) trivial ?_
  refine m_xI k200 (n := 0) (c := 0) (As := [aI (nI 16)]) (c_201 h1 h3 (by decide)) nX_no rfl rfl (fun w Z h9 => ?_)
  obtain ⟨rfl, h9⟩ := h9
  exact m_return k200 ⟨rfl, h9⟩
