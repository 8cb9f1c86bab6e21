/-! the builder's three appends -/
theorem TB.app {Z W : Sm} {N j : Nat} {l m : List Int32} (h : TB Z N j l) (h2 : W.2 = Z.2) (h1 : gI W.1 49 0 1 = 0) (h3 : gI W.1 49 0 3 = nI (l.length + m.length)) (hl : l.length + m.length ≤ N) (hm : ∀ q, q < m.length → fits .byte (.int (m.getD q 0)) = true) (hr : ∀ q, gI W.1 (1000 + N) j q = if l.length ≤ q ∧ q < l.length + m.length then m.getD (q - l.length) 0 else gI Z.1 (1000 + N) j q) : TB W N j (l ++ m) := by
  obtain ⟨a1, a2, a3, a4, a5, a6, a7, a8⟩ := h
  have hlen : (l ++ m).length = l.length + m.length := List.length_append
  refine ⟨by rw [h2]; exact a1, by rw [h2]; exact a2, h1, by rw [hlen]; exact h3, by rw [hlen]; exact hl, a6, fun q hq => ?_, fun q hq => ?_⟩
  · rw [hlen] at hq
    rw [hr q]
    by_cases hc : l.length ≤ q
    · rw [if_pos ⟨hc, hq⟩, List.getD_eq_getElem?_getD, List.getD_eq_getElem?_getD, List.getElem?_append_right hc]
    · rw [if_neg (by omega), a7 q (by omega), List.getD_eq_getElem?_getD, List.getD_eq_getElem?_getD, List.getElem?_append_left (by omega)]
  · rw [hr q]
    by_cases hc : l.length ≤ q ∧ q < l.length + m.length
    · rw [if_pos hc]
      exact hm _ (by omega)
    · rw [if_neg hc]
      exact a8 q hq
theorem c_203 {L N j t : Nat} {l : List Int32} {Y : Sm} (h : TB Y N j l) (ht : t < txn) (hl : l.length + slen t ≤ 348) : ML L 7 117 203 [aR 49 0, aS t] Y (fun w Z => w = some (aR 49 0) ∧ TK Y Z ∧ ∃ N' j', TB Z N' j' (l ++ txb t)) nX := by
  refine ML_of [(0, aR 49 0), (1, aS t)] ?_
  refine m_sg k203 1 (fun _ => rfl) trivial ?_
  refine m_ifnn k203 rfl rfl ?_
  refine m_sg k203 1 (fun _ => rfl) trivial ?_
  refine m_xT k203 (n := 117) (As := []) (c_227t ht) (nX_no) rfl (Or.inr rfl) jt_16_32 rfl (fun w Z q => ?_)
  obtain ⟨rfl, rfl⟩ := q
  refine m_sg k203 6 (fun _ => rfl) trivial ?_
  rw [h.2.2.2.1, nI_add]
  refine m_xU k203 (n := 0) (As := [aI (nI (l.length + slen t))]) (c_208 h hl) nX_no ju_16_100 rfl rfl rfl (fun w W h9 => ?_)
  obtain ⟨rfl, hK, N', j', hT, hq⟩ := h9
  refine m_sg k203 4 (fun _ => rfl) trivial ?_
  rw [hT.2.2.2.1]
  have hN := hT.2.2.2.2.2.1
  refine m_xU k203 (n := 0) (As := [aI (nI l.length), aS t]) (c_214 hT.2.2.1 hT.1 ht (by omega) (by omega)) nX_no ju_16_208 rfl rfl rfl (fun w X h9 => ?_)
  obtain ⟨rfl, rfl⟩ := h9
  refine m_sw k203 6 (Z := sI (cT W.1 t (1000 + N') j' 0 l.length (slen t), W.2) 49 0 3 (gI (cT W.1 t (1000 + N') j' 0 l.length (slen t)) 49 0 3 + nI (slen t))) (fun _ => rfl) rfl rfl ?_
  refine m_sg k203 1 (fun _ => rfl) trivial ?_
  refine m_areturn k203 ⟨rfl, TK.trans hK ⟨fun k i j9 hk hk9 => ?_, rfl, fun _ _ => rfl, fun _ _ _ _ => rfl⟩, N', j', ?_⟩ rfl rfl (Or.inl ⟨_, rfl⟩) rfl
  · rw [gI_sIk hk9]
    exact (cT_off (by omega) j9).1
  · refine hT.app rfl ?_ ?_ hq (txt_by t ht) (fun q => ?_)
    · show gI (cT W.1 t (1000 + N') j' 0 l.length (slen t)) 49 0 1 = 0
      exact (cT_off (by omega) 1).1.trans hT.2.2.1
    · rw [gI_sIv]
      show gI (cT W.1 t (1000 + N') j' 0 l.length (slen t)) 49 0 3 + nI (slen t) = _
      rw [(cT_off (by omega) 3).1, hT.2.2.2.1, nI_add]
      rfl
    · rw [gI_sIk (by omega)]
      show gI (cT W.1 t (1000 + N') j' 0 l.length (slen t)) (1000 + N') j' q = _
      rw [cT_cpy]
      show (if l.length ≤ q ∧ q < l.length + slen t then schr t (0 + (q - l.length)) else _) = _
      rw [Nat.zero_add]
      rfl
theorem c_202 {L N j t : Nat} {l : List Int32} {Y : Sm} (h : TB Y N j l) (ht : t < txn) (hl : l.length + slen t ≤ 348) : ML L 8 117 202 [aR 49 0, aS t] Y (fun w Z => w = some (aR 49 0) ∧ TK Y Z ∧ ∃ N' j', TB Z N' j' (l ++ txb t)) nX := by
  refine ML_of [(0, aR 49 0), (1, aS t)] ?_
  refine m_sg k202 2 (fun _ => rfl) trivial ?_
  refine m_xP k202 (n := 0) (As := [aS t]) (c_203 h ht hl) nX_no js_12_29 (by decide) rfl rfl (fun w Z h9 => ?_)
  obtain ⟨rfl, h9⟩ := h9
  refine m_sg k202 2 (fun _ => rfl) trivial ?_
  exact m_areturn k202 ⟨rfl, h9⟩ rfl rfl (Or.inl ⟨_, rfl⟩) rfl
theorem by127 : ∀ c, c < 128 → (nI c).toInt8.toInt32 = nI c ∧ fits .byte (.int (nI c)) = true := by decide +kernel
theorem c_205 {L N j c : Nat} {l : List Int32} {Y : Sm} (h : TB Y N j l) (hc : c < 128) (hl : l.length + 1 ≤ 348) : ML L 7 117 205 [aR 49 0, aI (nI c)] Y (fun w Z => w = some (aR 49 0) ∧ TK Y Z ∧ ∃ N' j', TB Z N' j' (l ++ [nI c])) nX := by
  refine ML_of [(0, aR 49 0), (1, aI (nI c))] ?_
  refine m_sg k205 5 (fun _ => rfl) trivial ?_
  rw [h.2.2.2.1, show nI l.length + 1 = nI (l.length + 1) from nI_add _ 1]
  refine m_xU k205 (n := 0) (As := [aI (nI (l.length + 1))]) (c_208 h hl) nX_no ju_16_100 rfl rfl rfl (fun w W h9 => ?_)
  obtain ⟨rfl, hK, N', j', hT, hq⟩ := h9
  have hN := hT.2.2.2.2.2.1
  refine m_sg k205 1 (fun _ => rfl) trivial ?_
  refine m_xU k205 (n := 0) (As := []) (c_212 hT.2.2.1) nX_no ju_16_83 rfl rfl rfl (fun w X h9 => ?_)
  obtain ⟨rfl, rfl⟩ := h9
  refine m_if_eq k205 rfl (fun h => absurd h (by decide)) (fun _ => ?_)
  refine m_sg k205 1 (fun _ => rfl) trivial ?_
  refine m_xS k205 (n := 0) (As := [aI (nI c)]) (c_213 (by omega)) nX_no rfl rfl (fun w W h9 => ?_)
  obtain ⟨rfl, rfl⟩ := h9
  refine m_if_eq k205 rfl (fun h => absurd h (by decide)) (fun _ => ?_)
  refine m_sg k205 1 (fun _ => rfl) trivial ?_
  refine m_getR k205 rfl rfl rfl rfl hT.1 ?_
  refine m_sw k205 9 (Z := sI W 49 0 3 (gI W.1 49 0 3 + 1)) (fun _ => rfl) rfl rfl ?_
  rw [hT.2.2.2.1, (by127 c hc).1, show nI l.length + 1 = nI (l.length + 1) from nI_add _ 1]
  refine m_bastB k205 rfl (shp_b N') (k68b N') (nI_in (by omega) (by omega)) ?_
  rw [(by127 c hc).1, ix_nI (by omega : l.length < 2 ^ 31)]
  refine m_sg k205 2 (fun _ => rfl) trivial ?_
  refine m_areturn k205 ⟨rfl, TK.trans hK ⟨fun k i j9 hk hk9 => ?_, rfl, fun _ _ => rfl, fun _ _ _ _ => rfl⟩, N', j', ?_⟩ rfl rfl (Or.inl ⟨_, rfl⟩) rfl
  · rw [gI_sIk (by omega), gI_sIk hk9]
  · refine hT.app rfl ?_ ?_ hq (fun q hq => ?_) (fun q => ?_)
    · rw [gI_sIk (by omega)]
      exact hT.2.2.1
    · rw [gI_sIk (by omega)]
      rfl
    · have : q = 0 := by simpa using hq
      subst this
      exact (by127 c hc).2
    · rw [gI_sI]
      by_cases e : q = l.length
      · subst e
        rw [if_pos ⟨rfl, rfl, rfl⟩, if_pos (by simp), Nat.sub_self]
        rfl
      · rw [if_neg (by omega), gI_sIk (by omega), if_neg (by simp; omega)]
theorem c_204 {L N j c : Nat} {l : List Int32} {Y : Sm} (h : TB Y N j l) (hc : c < 128) (hl : l.length + 1 ≤ 348) : ML L 8 117 204 [aR 49 0, aI (nI c)] Y (fun w Z => w = some (aR 49 0) ∧ TK Y Z ∧ ∃ N' j', TB Z N' j' (l ++ [nI c])) nX := by
  refine ML_of [(0, aR 49 0), (1, aI (nI c))] ?_
  refine m_sg k204 2 (fun _ => rfl) trivial ?_
  refine m_xP k204 (n := 0) (As := [aI (nI c)]) (c_205 h hc hl) nX_no js_12_50 (by decide) rfl rfl (fun w Z h9 => ?_)
  obtain ⟨rfl, h9⟩ := h9
  refine m_sg k204 2 (fun _ => rfl) trivial ?_
  exact m_areturn k204 ⟨rfl, h9⟩ rfl rfl (Or.inl ⟨_, rfl⟩) rfl
/-- the digits of a number below 100 -/
def digs (v : Nat) : List Int32 := if v < 10 then [nI (48 + v)] else [nI (48 + v / 10), nI (48 + v % 10)]
def dgn (v : Nat) : Nat := if v < 10 then 1 else 2
theorem digs_len (v : Nat) : (digs v).length = dgn v := by
  unfold digs dgn
  by_cases h : v < 10
  · rw [if_pos h, if_pos h]; rfl
  · rw [if_neg h, if_neg h]; rfl
theorem sz1 : ∀ v, v < 10 → ¬ -(nI v) ≤ (-10 : Int32) := by decide +kernel
theorem sz2 : ∀ v, v < 100 → ¬ v < 10 → -(nI v) ≤ (-10 : Int32) := by decide +kernel
theorem sz3 : ∀ v, v < 100 → ¬ -(nI v) ≤ (10 : Int32) * -10 := by decide +kernel
theorem c_216 {L v : Nat} {Y : Sm} (hv : v < 100) : ML L 4 0 216 [aI (nI v)] Y (Rt (some (aI (nI (dgn v)))) Y) nX := by
  refine ML_of [(0, aI (nI v))] ?_
  refine m_sg k216 3 (fun _ => rfl) trivial ?_
  refine m_if_lt k216 rfl (fun h => absurd h (nI_pos (by omega))) (fun _ => ?_)
  refine m_sg k216 11 (fun _ => rfl) trivial ?_
  refine m_icmp_ge k216 rfl (fun h => absurd h (by decide)) (fun _ => ?_)
  refine m_sg k216 2 (fun _ => rfl) trivial ?_
  by_cases h10 : v < 10
  · refine m_icmp_le k216 rfl (fun h => absurd h (sz1 v h10)) (fun _ => ?_)
    refine m_sg k216 3 (fun _ => rfl) trivial ?_
    exact m_ireturn k216 ⟨by unfold dgn; rw [if_pos h10]; rfl, rfl⟩
  · refine m_icmp_le k216 rfl (fun _ => ?_) (fun h => absurd (sz2 v hv h10) h)
    refine m_sg k216 8 (fun _ => rfl) trivial ?_
    refine m_icmp_ge k216 rfl (fun h => absurd h (by decide)) (fun _ => ?_)
    refine m_sg k216 2 (fun _ => rfl) trivial ?_
    refine m_icmp_le k216 rfl (fun h => absurd h (sz3 v hv)) (fun _ => ?_)
    refine m_sg k216 3 (fun _ => rfl) trivial ?_
    exact m_ireturn k216 ⟨by unfold dgn; rw [if_neg h10]; rfl, rfl⟩
