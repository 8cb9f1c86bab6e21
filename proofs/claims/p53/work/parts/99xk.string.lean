/-! the text is taken out of the builder; its length and its chars are read -/
theorem c_226 {L n : Nat} {Y : Sm} (hn : n ≤ 6000) : ML L 4 0 226 [aI 0, aI (nI n)] Y (Rt none Y) nX := by
  refine ML_of [(0, aI 0), (1, aI (nI n))] ?_
  refine m_sg k226 2 (fun _ => rfl) trivial ?_
  refine m_icmp_ge k226 rfl (fun _ => ?_) (fun h => absurd (nI_pos' (by omega)) h)
  exact m_return k226 ⟨rfl, rfl⟩
theorem c_225 {L N n j : Nat} {Y : Sm} (h : n < N) (hN : N ≤ 702) (hf : ∀ q, q < N → fits .byte (.int (gI Y.1 (1000 + N) j q)) = true) : ML L 5 117 225 [aR (1000 + N) j, aI 0, aI (nI n)] Y (fun w Z => ∃ j2, w = some (aR (1000 + n) j2) ∧ (∀ k i q, k < 1000 → gI Z.1 k i q = gI Y.1 k i q) ∧ Z.1.2 = Y.1.2 ∧ (∀ q, q ≤ 2999 ∨ 7001 ≤ q → Z.2 q = Y.2 q) ∧ ∀ q, q < n → gI Z.1 (1000 + n) j2 q = gI Y.1 (1000 + N) j q) nX := by
  refine ML_of [(0, aR (1000 + N) j), (1, aI 0), (2, aI (nI n))] ?_
  refine m_sg k225 2 (fun _ => rfl) trivial ?_
  refine m_xS k225 (n := 117) (As := [aI 0, aI (nI n)]) (c_226 (by omega)) nX_no rfl rfl (fun w Z h9 => ?_)
  obtain ⟨rfl, rfl⟩ := h9
  refine m_sg k225 5 (fun _ => rfl) trivial ?_
  rw [Int32.sub_zero]
  refine m_newB (n := 0) k225 n 117 rfl rfl (by omega) (fun hz => ?_)
  refine m_sg k225 6 (fun _ => rfl) trivial ?_
  refine m_alenB k225 rfl (shp_b N) (k68b N) ?_
  refine m_sg k225 4 (fun _ => rfl) trivial ?_
  rw [Int32.sub_zero, if_pos (nI_lt h (by omega))]
  have e0 : ix (0 : Int32) = 0 := rfl
  have eN : ix (nI n) = n := ix_nI (by omega)
  refine m_copyB k225 rfl (by decide) (shp_b N) (shp_b n) (fun q hq => ?_) (k68b N) (k68b n) (by decide) (by decide) (nI_pos (by omega)) (by rw [e0, eN]; omega) (by rw [e0, eN]; omega) ?_
  · rw [eN] at hq
    rw [e0, Nat.zero_add]
    exact hf q (by omega)
  rw [e0, eN]
  refine m_sg k225 1 (fun _ => rfl) trivial ?_
  refine m_areturn k225 ⟨_, rfl, fun k i q hk => (cI_off (by omega) q).1, rfl, fun q hq => ?_, fun q hq => ?_⟩ rfl rfl (Or.inr ⟨_, rfl⟩) rfl
  · exact ug_ne (by omega)
  · show gI (cI Z.1 (1000 + N) j 0 (1000 + n) (cF Z.2 (1000 + n)) 0 n) _ _ q = _
    rw [cI_cpy]
    show (if 0 ≤ q ∧ q < 0 + n then _ else _) = _
    rw [if_pos (by omega), Nat.sub_zero, Nat.zero_add]
theorem c_224 {L N n j : Nat} {Y : Sm} (h : n ≤ N) (hN : N ≤ 702) (hf : ∀ q, q < N → fits .byte (.int (gI Y.1 (1000 + N) j q)) = true) (hj : j < Y.2 (2000 + (1000 + N))) : ML L 6 117 224 [aR (1000 + N) j, aI 0, aI (nI n)] Y (fun w Z => ∃ j2, w = some (aR (1000 + n) j2) ∧ (∀ k i q, k < 1000 → gI Z.1 k i q = gI Y.1 k i q) ∧ Z.1.2 = Y.1.2 ∧ (∀ q, q ≤ 2999 ∨ 7001 ≤ q → Z.2 q = Y.2 q) ∧ ∀ q, q < n → gI Z.1 (1000 + n) j2 q = gI Y.1 (1000 + N) j q) nX := by
  refine ML_of [(0, aR (1000 + N) j), (1, aI 0), (2, aI (nI n))] ?_
  refine m_sg k224 1 (fun _ => rfl) trivial ?_
  refine m_if_ne k224 rfl (fun h => absurd rfl h) (fun _ => ?_)
  refine m_sg k224 2 (fun _ => rfl) trivial ?_
  refine m_alenB k224 rfl (shp_b N) (k68b N) ?_
  refine m_icmp_eq k224 rfl (fun h9 => ?_) (fun h9 => ?_)
  · have e := (nI_eq (by omega) (by omega)).mp h9
    subst e
    refine m_sg k224 1 (fun _ => rfl) trivial ?_
    refine m_clone (n := 0) (c := 117) k224 rfl rfl hf (by decide) (by omega) ?_
    refine m_castB k224 rfl rfl (shp_b n) (k68b n) ?_
    refine m_areturn k224 ⟨_, rfl, fun k i q hk => (cR_off (by omega) q).1, rfl, fun q hq => ?_, fun q hq => ?_⟩ rfl rfl (Or.inr ⟨_, rfl⟩) rfl
    · exact ug_ne (by omega)
    · exact cR_at
  · have hlt : n < N := by
      rcases Nat.lt_or_eq_of_le h with q | q
      · exact q
      · exact absurd (by rw [q]) h9
    refine m_sg k224 3 (fun _ => rfl) trivial ?_
    refine m_xS k224 (n := 0) (As := [aR (1000 + N) j, aI 0, aI (nI n)]) (c_225 hlt hN hf) nX_no rfl rfl (fun w Z h9 => ?_)
    obtain ⟨j2, rfl, h9⟩ := h9
    exact m_areturn k224 ⟨j2, rfl, h9⟩ rfl rfl (Or.inr ⟨_, rfl⟩) rfl
theorem c_223 {L N j : Nat} {Y : Sm} (hr : sr Y.2 49 0 0 = some (1000 + N, j)) : ML L 4 0 223 [aR 49 0] Y (Rt (some (aR (1000 + N) j)) Y) nX := by
  refine ML_of [(0, aR 49 0)] ?_
  refine m_sg k223 1 (fun _ => rfl) trivial ?_
  refine m_getR k223 rfl rfl rfl rfl hr ?_
  exact m_areturn k223 ⟨rfl, rfl⟩ rfl rfl (Or.inr ⟨_, rfl⟩) rfl
theorem c_222 {L : Nat} {Y : Sm} : ML L 4 0 222 [aR 49 0] Y (Rt (some (aI (gI Y.1 49 0 3))) Y) nX := by
  refine ML_of [(0, aR 49 0)] ?_
  refine m_sg k222 2 (fun _ => rfl) trivial ?_
  exact m_ireturn k222 ⟨rfl, rfl⟩
theorem c_221 {L : Nat} {Y : Sm} : ML L 5 0 221 [aR 49 0] Y (Rt (some (aI (gI Y.1 49 0 3))) Y) nX := by
  refine ML_of [(0, aR 49 0)] ?_
  refine m_sg k221 1 (fun _ => rfl) trivial ?_
  refine m_xP k221 (n := 0) (As := []) c_222 nX_no js_12_343 (by decide) rfl rfl (fun w Z h9 => ?_)
  obtain ⟨rfl, rfl⟩ := h9
  exact m_ireturn k221 ⟨rfl, rfl⟩
/-- the text holds the bytes l -/
def ST (Y : Sm) (l : List Int32) : Prop := (∃ j, sr Y.2 50 0 0 = some (1000 + l.length, j) ∧ ∀ q, q < l.length → gI Y.1 (1000 + l.length) j q = l.getD q 0) ∧ gI Y.1 50 0 1 = 0
def TK2 (Y Z : Sm) : Prop := (∀ k i j, k < 1000 → k ≠ 49 → k ≠ 50 → gI Z.1 k i j = gI Y.1 k i j) ∧ Z.1.2 = Y.1.2 ∧ ∀ q, q ≤ 2048 → Z.2 q = Y.2 q
theorem c_220 {L N j : Nat} {l : List Int32} {Y : Sm} (h : TB Y N j l) (hc : gI Y.1 50 0 1 = 0) : ML L 7 117 220 [aR 50 0, aR 49 0, aX 0] Y (fun w Z => w = none ∧ TK2 Y Z ∧ ST Z l) nX := by
  obtain ⟨hr, hj, h1, h3, hl, hN, hb, hf⟩ := id h
  refine ML_of [(0, aR 50 0), (1, aR 49 0), (2, aX 0)] ?_
  refine m_sg k220 3 (fun _ => rfl) trivial ?_
  refine m_xU k220 (n := 117) (As := []) (c_223 hr) nX_no ju_14_552 rfl rfl rfl (fun w Z h9 => ?_)
  obtain ⟨rfl, rfl⟩ := h9
  refine m_sg k220 2 (fun _ => rfl) trivial ?_
  refine m_xU k220 (n := 117) (As := []) c_221 nX_no ju_14_549 rfl rfl rfl (fun w Y h9 => ?_)
  obtain ⟨rfl, rfl⟩ := h9
  rw [h3]
  refine m_sg k220 2 (fun _ => rfl) trivial ?_
  refine m_xU k220 (n := 117) (As := []) (c_212 h1) nX_no ju_14_1047 rfl rfl rfl (fun w Z h9 => ?_)
  obtain ⟨rfl, rfl⟩ := h9
  refine m_if_eq k220 rfl (fun h => absurd h (by decide)) (fun _ => ?_)
  refine m_sg k220 2 (fun _ => rfl) trivial ?_
  refine m_sameF k220 rfl rfl rfl rfl rfl rfl rfl rfl hc rfl rfl ?_
  refine m_sg k220 4 (fun _ => rfl) trivial ?_
  refine m_xS k220 (n := 0) (As := [aR (1000 + N) j, aI 0, aI (nI l.length)]) (c_224 hl (by omega) hf hj) nX_no rfl rfl (fun w X h9 => ?_)
  obtain ⟨j2, rfl, g1, g2, g3, g4⟩ := h9
  refine m_pt50 k220 rfl rfl rfl (by omega) ?_
  refine m_sg k220 1 (fun _ => rfl) trivial ?_
  refine m_return k220 ⟨rfl, ⟨fun k i q hk _ _ => g1 k i q hk, g2, fun q hq => ?_⟩, ⟨j2, sr_at50 (by omega), fun q hq => (g4 q hq).trans (hb q hq)⟩, (g1 50 0 1 (by omega)).trans hc⟩
  show ug (ug X.2 _ _) _ _ q = _
  rw [ug_ne (by omega), ug_ne (by omega)]
  exact g3 q (by omega)
theorem c_219 {L N j : Nat} {l : List Int32} {Y : Sm} (h : TB Y N j l) (hc : gI Y.1 50 0 1 = 0) : ML L 8 117 219 [aR 50 0, aR 49 0] Y (fun w Z => w = none ∧ TK2 Y Z ∧ ST Z l) nX := by
  refine ML_of [(0, aR 50 0), (1, aR 49 0)] ?_
  refine m_sg k219 2 (fun _ => rfl) trivial ?_
  refine m_null k219 rfl ?_
  refine m_xI k219 (n := 0) (c := 0) (As := [aR 49 0, aX 0]) (c_220 h hc) nX_no rfl rfl (fun w Z h9 => ?_)
  obtain ⟨rfl, h9⟩ := h9
  exact m_return k219 ⟨rfl, h9⟩
theorem TB.mk50 {Y : Sm} {N j : Nat} {l : List Int32} (h : TB Y N j l) : TB (mkC Y 50) N j l := by
  obtain ⟨a1, a2, a3⟩ := h
  refine ⟨?_, ?_, a3⟩
  · rw [← a1]
    show sr (ug Y.2 (2000 + 50) _) 49 0 0 = sr Y.2 49 0 0
    show (cond (Nat.beq 0 0) (cond (Nat.beq (ug Y.2 (2000 + 50) _ (10000 + 4 * 0)) 0) none (some (ug Y.2 (2000 + 50) _ (10000 + 4 * 0), ug Y.2 (2000 + 50) _ (10001 + 4 * 0)))) none) = _
    rw [ug_ne (by omega), ug_ne (by omega)]
    rfl
  · show j < ug Y.2 (2000 + 50) _ (2000 + (1000 + N))
    rw [ug_ne (by omega)]
    exact a2
theorem c_218 {L N j : Nat} {l : List Int32} {Y : Sm} (h : TB Y N j l) (hs : Y.2 2050 = 0) (hs2 : Y.2 10002 = 0) : ML L 9 118 218 [aR 49 0] Y (fun w Z => w = some (aR 50 0) ∧ TK2 Y Z ∧ ST Z l) nX := by
  refine ML_of [(0, aR 49 0)] ?_
  have h0 : cF Y.2 50 = 0 := (cF_x (by omega) (by omega) (by omega) (by omega)).trans hs
  refine m_newO k218 50 (nf := 4) (n := 117) rfl rfl rfl rfl (by omega) (fun q => ?_) (by omega) (fun hz => ?_)
  · rw [h0]
    show sr50 Y.2 0 q = none
    unfold sr50
    rw [show 10002 + 4 * 0 = 10002 from rfl, hs2]
    cases Nat.beq q 0 <;> rfl
  rw [h0] at hz ⊢
  refine m_sg k218 2 (fun _ => rfl) trivial ?_
  refine m_xI k218 (n := 0) (c := 0) (As := [aR 49 0]) (c_219 h.mk50 (hz 1)) nX_no rfl rfl (fun w Z h9 => ?_)
  obtain ⟨rfl, h9, h8⟩ := h9
  refine m_areturn k218 ⟨rfl, ⟨h9.1, h9.2.1, fun q hq => ?_⟩, h8⟩ rfl rfl (Or.inl ⟨_, rfl⟩) rfl
  rw [h9.2.2 q hq]
  exact ug_ne (by omega)
theorem c_228 {L : Nat} {Y : Sm} (h1 : gI Y.1 50 0 1 = 0) : ML L 4 0 228 [aR 50 0] Y (Rt (some (aI 0)) Y) nX := by
  refine ML_of [(0, aR 50 0)] ?_
  refine m_getC k228 rfl jl_c14 ?_
  refine m_if_eq k228 rfl (fun h => absurd h (by decide)) (fun _ => ?_)
  refine m_sg k228 3 (fun _ => rfl) trivial ?_
  rw [h1]
  exact m_nreturn k228 ⟨rfl, rfl⟩ rfl rfl rfl
theorem c_229 {L : Nat} {Y : Sm} (h1 : gI Y.1 50 0 1 = 0) : ML L 4 0 229 [aR 50 0] Y (Rt (some (aI 1)) Y) nX := by
  refine ML_of [(0, aR 50 0)] ?_
  refine m_getC k229 rfl jl_c14 ?_
  refine m_if_eq k229 rfl (fun h => absurd h (by decide)) (fun _ => ?_)
  refine m_sg k229 2 (fun _ => rfl) trivial ?_
  refine m_if_ne k229 rfl (fun h => absurd h1 h) (fun _ => ?_)
  refine m_sg k229 2 (fun _ => rfl) trivial ?_
  exact m_zreturn k229 (Or.inr rfl) ⟨rfl, rfl⟩
theorem c_227 {L : Nat} {l : List Int32} {Y : Sm} (h : ST Y l) (hl : l.length ≤ 6000) : ML L 5 0 227 [aR 50 0] Y (Rt (some (aI (nI l.length))) Y) nX := by
  obtain ⟨⟨j, hr, -⟩, h1⟩ := h
  refine ML_of [(0, aR 50 0)] ?_
  refine m_sg k227 1 (fun _ => rfl) trivial ?_
  refine m_getR k227 rfl rfl rfl rfl hr ?_
  refine m_alenB k227 rfl (shp_b _) (k68b _) ?_
  refine m_sg k227 1 (fun _ => rfl) trivial ?_
  refine m_xV k227 (n := 0) (As := []) (c_228 h1) (nX_no) rfl rfl (fun w Z q => ?_)
  obtain ⟨rfl, rfl⟩ := q
  refine m_sg k227 1 (fun _ => rfl) trivial ?_
  rw [shr0]
  exact m_ireturn k227 ⟨rfl, rfl⟩
theorem ch127 : ∀ c, c < 128 → ((nI c &&& 255).toUInt32 % 65536).toInt32 = nI c ∧ narrow .char (.int (nI c)) = .int (nI c) := by decide +kernel
theorem c_231 {L n j i c : Nat} {Y : Sm} (hi : i < n) (hn : n ≤ 6000) (hc : c < 128) (he : gI Y.1 (1000 + n) j i = nI c) : ML L 4 0 231 [aR (1000 + n) j, aI (nI i)] Y (Rt (some (aI (nI c))) Y) nX := by
  refine ML_of [(0, aR (1000 + n) j), (1, aI (nI i))] ?_
  refine m_sg k231 2 (fun _ => rfl) trivial ?_
  refine m_alenB k231 rfl (shp_b _) (k68b _) ?_
  refine m_chk9 k231 rfl rfl (by decide) (nI_pos (by omega)) (nI_lt hi (by omega)) ?_
  refine m_sg k231 2 (fun _ => rfl) trivial ?_
  refine m_baldB k231 rfl (shp_b n) (k68b n) (nI_in hi (by omega)) ?_
  rw [ix_nI (by omega : i < 2 ^ 31), he]
  refine m_sg k231 3 (fun _ => rfl) trivial ?_
  rw [(ch127 c hc).1]
  exact m_nreturn k231 ⟨rfl, rfl⟩ rfl rfl (ch127 c hc).2
theorem c_230 {L i c : Nat} {l : List Int32} {Y : Sm} (h : ST Y l) (hi : i < l.length) (hl : l.length ≤ 6000) (hc : c < 128) (he : l.getD i 0 = nI c) : ML L 5 0 230 [aR 50 0, aI (nI i)] Y (Rt (some (aI (nI c))) Y) nX := by
  obtain ⟨⟨j, hr, hb⟩, h1⟩ := h
  refine ML_of [(0, aR 50 0), (1, aI (nI i))] ?_
  refine m_sg k230 1 (fun _ => rfl) trivial ?_
  refine m_xV k230 (n := 0) (As := []) (c_229 h1) (nX_no) rfl rfl (fun w Z q => ?_)
  obtain ⟨rfl, rfl⟩ := q
  refine m_if_eq k230 rfl (fun h => absurd h (by decide)) (fun _ => ?_)
  refine m_sg k230 1 (fun _ => rfl) trivial ?_
  refine m_getR k230 rfl rfl rfl rfl hr ?_
  refine m_sg k230 1 (fun _ => rfl) trivial ?_
  refine m_xS k230 (n := 0) (As := [aR (1000 + l.length) j, aI (nI i)]) (c_231 hi hl hc ((hb i hi).trans he)) nX_no rfl rfl (fun w Z h9 => ?_)
  obtain ⟨rfl, rfl⟩ := h9
  exact m_nreturn k230 ⟨rfl, rfl⟩ rfl rfl (ch127 c hc).2
