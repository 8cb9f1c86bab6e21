/-! the law's feed, walked -/
/-- a row of words holds what k chars have put into it; the rest is as in Y0 -/
def FI (Y0 Y : Sm) (i : Nat) (A : Nat → Nat) (k : Nat) : Prop := (∀ j, j < 5 → gI Y.1 48 i j = nI (pw A k j)) ∧ (∀ k' i' j', k' ≠ 48 → gI Y.1 k' i' j' = gI Y0.1 k' i' j') ∧ Y.1.2 = Y0.1.2 ∧ Y.2 = Y0.2
theorem ST.cg {Y Z : Sm} {l : List Int32} (h : ST Y l) (h1 : ∀ k i j, 50 ≤ k → gI Z.1 k i j = gI Y.1 k i j) (h2 : sr Z.2 50 0 0 = sr Y.2 50 0 0) : ST Z l := by
  obtain ⟨⟨j, a, b⟩, c⟩ := h
  exact ⟨⟨j, h2.trans a, fun q hq => (h1 _ _ _ (by omega)).trans (b q hq)⟩, (h1 _ _ _ (by omega)).trans c⟩
theorem c_182i {L at9 i R : Nat} {l : List Int32} {ch : Nat → Nat} {Y0 : Sm} {P : Option Av → Sm → Prop} (hS : ST Y0 l) (hl : l.length ≤ 348) (hat : at9 ≤ 480) (hch : ∀ q, q < l.length → ch q < 128 ∧ l.getD q 0 = nI (ch q))
    (kk : ∀ Y, FI Y0 Y i (fun k => if at9 + k < l.length then ch (at9 + k) else 32) 20 → WL L 182 7 40 R 74 [(0, aR 0 0), (1, aR 50 0), (2, aI (nI at9)), (3, aR 48 i), (4, aI (nI 20))] [] Y P nX) :
    ∀ n k Y, k + n = 20 → FI Y0 Y i (fun k => if at9 + k < l.length then ch (at9 + k) else 32) k → WL L 182 7 40 R 17 [(0, aR 0 0), (1, aR 50 0), (2, aI (nI at9)), (3, aR 48 i), (4, aI (nI k))] [] Y P nX
  | 0, k, Y, hk, hF => by
    have hkC : k = 20 := by omega
    subst hkC
    refine m_sg k182 2 (fun _ => rfl) trivial ?_
    refine m_icmp_ge k182 rfl (fun _ => kk Y hF) (fun h => absurd (nI_le (a := 20) (b := 20) (Nat.le_refl _) (by omega)) h)
  | n + 1, k, Y, hk, hF => by
    have hA : ∀ k, (if at9 + k < l.length then ch (at9 + k) else 32) < 128 := fun k => by
      by_cases q : at9 + k < l.length
      · rw [if_pos q]; exact (hch _ q).1
      · rw [if_neg q]; omega
    generalize hAe : (fun k => if at9 + k < l.length then ch (at9 + k) else 32) = A at *
    have hAk : A k = if at9 + k < l.length then ch (at9 + k) else 32 := by rw [← hAe]
    have hSY : ST Y l := hS.cg (fun k' i' j' h => hF.2.1 k' i' j' (by omega)) (by rw [hF.2.2.2])
    have e4 : nI k / 4 = nI (k / 4) := nI_dv (b := 4) (by omega) (by omega)
    have em : nI k - nI k / 4 * 4 = nI (k % 4) := nI_rm (b := 4) (by omega) (by omega)
    have hin : vp_in (nI k / 4) 5 := by rw [e4]; exact nI_in (by omega) (by omega)
    have tail : ∀ c, c = A k → WL L 182 7 40 R 55 [(0, aR 0 0), (1, aR 50 0), (2, aI (nI at9)), (3, aR 48 i), (4, aI (nI k))] [aI (nI c), aI (gI Y.1 48 i (ix (nI k / 4))), aI (nI k / 4), aR 48 i] Y P nX := fun c hc => by
      refine m_sw k182 12 (Z := sI Y 48 i (ix (nI k / 4)) (gI Y.1 48 i (ix (nI k / 4)) ||| nI c <<< ((24 - 8 * (nI k - nI k / 4 * 4)) &&& 31))) (cs' := [¬ (4 : Int32) = 0, vp_in (nI k / 4) 5, Nat.beq 48 68 = false]) (fun _ => rfl) rfl ⟨by decide, hin, rfl⟩ ?_
      rw [em, e4, ix_nI (by omega : k / 4 < 2 ^ 31), hF.1 (k / 4) (by omega), show nI k + 1 = nI (k + 1) from nI_1 k, show (8 : Int32) * nI (k % 4) = nI (8 * (k % 4)) from nI_ml 8 _, show (24 : Int32) - nI (8 * (k % 4)) = nI (24 - 8 * (k % 4)) from nI_sb (a := 24) (b := 8 * (k % 4)) (by omega), nI_sl c (k % 4) (Nat.mod_lt _ (by omega)), nI_or, hc]
      refine c_182i hS hl hat hch (by rw [hAe]; exact kk) n (k + 1) _ (by omega) ?_
      rw [hAe]
      refine ⟨fun j hj => ?_, fun k' i' j' h => ?_, hF.2.2.1, hF.2.2.2⟩
      · rw [gI_sI]
        show _ = nI (if j = k / 4 then pw A k j ||| A k <<< (24 - 8 * (k % 4)) else pw A k j)
        by_cases e : j = k / 4
        · rw [if_pos ⟨rfl, rfl, e⟩, if_pos e, e]
        · rw [if_neg (fun h => e h.2.2), if_neg e]
          exact hF.1 j hj
      · rw [gI_sIk h]
        exact hF.2.1 k' i' j' h
    refine m_sg k182 2 (fun _ => rfl) trivial ?_
    refine m_icmp_ge k182 rfl (fun h => absurd h (nI_ge (b := 20) (by omega) (by omega))) (fun _ => ?_)
    refine m_sg k182 10 (cs' := [¬ (4 : Int32) = 0, vp_in (nI k / 4) 5]) (fun _ => rfl) ⟨by decide, hin⟩ ?_
    rw [nI_add]
    refine m_xV k182 (n := R) (As := []) (c_227 hSY (by omega)) nX_no rfl rfl (fun w Z h9 => ?_)
    obtain ⟨rfl, e9⟩ := h9
    cases e9
    refine m_icmp_ge k182 rfl (fun h => ?_) (fun h => ?_)
    · refine m_sg k182 1 (fun _ => rfl) trivial ?_
      refine tail 32 ?_
      rw [hAk, if_neg (fun q => h |> fun h => absurd h (nI_ge q (by omega)))]
    · have hlt : at9 + k < l.length := Nat.lt_of_not_le fun q => h (nI_le q (by omega))
      refine m_sg k182 4 (fun _ => rfl) trivial ?_
      rw [nI_add]
      refine m_xV k182 (n := R) (As := [aI (nI (at9 + k))]) (c_230 hSY hlt (by omega) (hch _ hlt).1 (hch _ hlt).2) nX_no rfl rfl (fun w Z h9 => ?_)
      obtain ⟨rfl, e9⟩ := h9
      cases e9
      refine m_sg k182 1 (fun _ => rfl) trivial ?_
      refine tail (ch (at9 + k)) ?_
      rw [hAk, if_pos hlt]
/-- what a feed leaves: the input alone is changed -/
def FK (Y Z : Sm) : Prop := (∀ k i j, k < 48 ∨ k = 68 → ¬ (k = 1 ∧ j = 1) → k ≠ 2 → gI Z.1 k i j = gI Y.1 k i j) ∧ Z.1.2 = Y.1.2 ∧ ∀ q, q ≤ 2047 → Z.2 q = Y.2 q
theorem FK.refl {Y : Sm} : FK Y Y := ⟨fun _ _ _ _ _ _ => rfl, rfl, fun _ _ => rfl⟩
theorem FK.trans {Y Z W : Sm} (h : FK Y Z) (h2 : FK Z W) : FK Y W := ⟨fun k i j a b c => (h2.1 k i j a b c).trans (h.1 k i j a b c), h2.2.1.trans h.2.1, fun q a => (h2.2.2 q a).trans (h.2.2 q a)⟩
theorem c_182 {L : Nat} {l : List Int32} {ch : Nat → Nat} {Y0 : Sm} {P : Option Av → Sm → Prop} (hl : l.length ≤ 348) (hch : ∀ q, q < l.length → ch q < 128 ∧ l.getD q 0 = nI (ch q))
    (kk : ∀ Y n, FK Y0 Y → ST Y l → gI Y.1 1 0 1 = nI n → n ≤ 500 → l.length ≤ n → (∀ q, q < l.length → gI Y.1 2 0 q = l.getD q 0) → WL L 182 7 40 0 100 [(0, aR 0 0), (1, aR 50 0), (2, aI (nI n))] [] Y P nX) :
    ∀ m n Y, l.length ≤ n + 20 * m → n ≤ l.length + 19 → FK Y0 Y → ST Y l → gI Y.1 1 0 1 = nI n → (∀ q, q < n → q < l.length → gI Y.1 2 0 q = l.getD q 0) → WL L 182 7 40 m 2 [(0, aR 0 0), (1, aR 50 0), (2, aI (nI n))] [] Y P nX
  | m, n, Y, hm, hn, hK, hS, h1, h2 => by
    refine m_sg k182 2 (fun _ => rfl) trivial ?_
    refine m_xV k182 (n := m) (As := []) (c_227 hS (by omega)) nX_no rfl rfl (fun w Z h9 => ?_)
    obtain ⟨rfl, e9⟩ := h9
    cases e9
    refine m_icmp_ge k182 rfl (fun h => ?_) (fun h => ?_)
    · have hle : l.length ≤ n := (nI_leI (by omega) (by omega)).mp h
      exact m_le (n := 0) (Nat.zero_le _) (kk Y n hK hS h1 (by omega) hle (fun q hq => h2 q (by omega) hq))
    · have hlt : n < l.length := Nat.lt_of_not_le fun q => h (nI_le q (by omega))
      match m, hm with
      | 0, hm => exact absurd hm (by omega)
      | m + 1, hm =>
      refine m_sg k182 1 (fun _ => rfl) trivial ?_
      refine m_newI (n := m) k182 rfl rfl (fun hz => ?_)
      refine m_sg k182 3 (fun _ => rfl) trivial ?_
      have hS1 : ST (mkC Y 48) l := hS.cg (fun _ _ _ _ => rfl) (by
        show sr50 (ug Y.2 (2000 + 48) (Y.2 (2000 + 48) + 1)) 0 0 = sr50 Y.2 0 0
        unfold sr50
        rw [ug_ne (by omega), ug_ne (by omega)])
      refine c_182i (R := m) (Y0 := mkC Y 48) hS1 hl (by omega) hch (fun Y2 hF => ?_) 20 0 (mkC Y 48) (by omega) ⟨fun j _ => hz j, fun _ _ _ _ => rfl, rfl, rfl⟩
      have hA : ∀ k, (fun k => if n + k < l.length then ch (n + k) else 32) k < 128 := fun k => by
        show (if n + k < l.length then ch (n + k) else 32) < 128
        by_cases q : n + k < l.length
        · rw [if_pos q]; exact (hch _ q).1
        · rw [if_neg q]; omega
      refine m_sg k182 16 (cs' := [vp_in 0 5, vp_in 1 5, vp_in 2 5, vp_in 3 5, vp_in 4 5]) (fun _ => rfl) ⟨nI_in (c := 0) (by omega) (by omega), nI_in (c := 1) (by omega) (by omega), nI_in (c := 2) (by omega) (by omega), nI_in (c := 3) (by omega) (by omega), nI_in (c := 4) (by omega) (by omega)⟩ ?_
      have h1' : gI Y2.1 1 0 1 = nI n := (hF.2.1 1 0 1 (by omega)).trans h1
      have k9 := c_104 (Y := Y2) (n := n) (A := fun j => gI Y2.1 48 (cF Y.2 48) j) h1' (by omega)
      refine m_xV k182 (n := m) (As := [aI (gI Y2.1 48 (cF Y.2 48) 0), aI (gI Y2.1 48 (cF Y.2 48) 1), aI (gI Y2.1 48 (cF Y.2 48) 2), aI (gI Y2.1 48 (cF Y.2 48) 3), aI (gI Y2.1 48 (cF Y.2 48) 4)]) (ML_mt (sn_104 _ _ _ _ _ _ _ k9)) nX_no rfl rfl (fun w Z h9 => ?_)
      obtain ⟨rfl, e9⟩ := h9
      cases e9
      refine m_sg k182 3 (fun _ => rfl) trivial ?_
      rw [show nI n + 20 = nI (n + 20) from nI_add n 20]
      refine m_ls [(0, aR 0 0), (1, aR 50 0), (2, aI (nI (n + 20)))] (fun q hq => ?_) ?_
      · simp only [List.mem_cons, List.not_mem_nil, or_false] at hq
        rcases hq with rfl | rfl | rfl <;> rfl
      refine c_182 hl hch kk m (n + 20) _ (by omega) (by omega) (hK.trans ⟨fun k i j ha hb hc => ?_, ?_, fun q hq => ?_⟩) ?_ ?_ (fun q hq hq2 => ?_)
      · rw [gI_sI, if_neg (fun e => hb ⟨e.1, e.2.2⟩), gI_sFk hc]
        exact hF.2.1 k i j (by omega)
      · exact hF.2.2.1
      · show Y2.2 q = Y.2 q
        rw [hF.2.2.2]
        exact ug_ne (by omega)
      · refine hS1.cg (fun k i j h => ?_) ?_
        · rw [gI_sIk (by omega), gI_sFk (by omega)]
          exact hF.2.1 k i j (by omega)
        · show sr Y2.2 50 0 0 = _
          rw [hF.2.2.2]
      · rw [gI_sIv, upd_at]
      · rw [gI_sIk (by omega), gI_sFs]
        show (if n ≤ q ∧ q < n + 20 then by8 (gI Y2.1 48 (cF Y.2 48) ((q - n) / 4)) ((q - n) % 4) else gI Y2.1 2 0 q) = _
        by_cases hc : n ≤ q
        · rw [if_pos ⟨hc, hq⟩, hF.1 _ (by omega), pw_by hA (by omega)]
          show nI (if n + (q - n) < l.length then ch (n + (q - n)) else 32) = _
          rw [show n + (q - n) = q by omega, if_pos hq2]
          exact (hch q hq2).2.symm
        · rw [if_neg (by omega), hF.2.1 2 0 q (by omega)]
          exact h2 q (by omega) hq2
theorem c_105 {Y : Sm} {a n : Nat} (h : gI Y.1 1 0 1 = nI n) (ha : a ≤ n) (hn : n ≤ 500) : fn_105 (nI a) Y = some (nI 1, sI Y 1 0 1 (nI a)) := by
  unfold fn_105
  rw [if_neg (nI_nlt (b := 0) (by omega) (by omega)), h, if_pos (nI_le ha (by omega))]
  rfl
theorem c_182f {L : Nat} {l : List Int32} {ch : Nat → Nat} {Y : Sm} (hl : l.length ≤ 348) (hch : ∀ q, q < l.length → ch q < 128 ∧ l.getD q 0 = nI (ch q)) (hS : ST Y l) (h0 : gI Y.1 1 0 1 = nI 0) : ML L 7 40 182 [aR 0 0, aR 50 0] Y (fun w Z => w = none ∧ FK Y Z ∧ gI Z.1 1 0 1 = nI l.length ∧ ∀ q, q < l.length → gI Z.1 2 0 q = l.getD q 0) nX := by
  refine ML_of [(0, aR 0 0), (1, aR 50 0)] ?_
  refine m_sg k182 2 (fun _ => rfl) trivial ?_
  refine c_182 (Y0 := Y) hl hch (fun Y1 n hK hS1 h1 hn hln hb => ?_) 40 0 Y (by omega) (by omega) FK.refl hS h0 (fun q hq _ => absurd hq (Nat.not_lt_zero q))
  refine m_sg k182 2 (fun _ => rfl) trivial ?_
  refine m_xV k182 (n := 0) (As := []) (c_227 hS1 (by omega)) nX_no rfl rfl (fun w Z h9 => ?_)
  obtain ⟨rfl, e9⟩ := h9
  cases e9
  refine m_xV k182 (n := 0) (As := [aI (nI l.length)]) (ML_mt (sn_105 _ _ _ (c_105 h1 hln hn))) nX_no rfl rfl (fun w Z h9 => ?_)
  obtain ⟨rfl, e9⟩ := h9
  cases e9
  refine m_sg k182 1 (fun _ => rfl) trivial ?_
  refine m_return k182 ⟨rfl, hK.trans ⟨fun k i j ha hb hc => ?_, rfl, fun _ _ => rfl⟩, ?_, fun q hq => ?_⟩
  · rw [gI_sI, if_neg (fun e => hb ⟨e.1, e.2.2⟩)]
  · rw [gI_sIv, upd_at]
  · rw [gI_sIk (by omega)]
    exact hb q hq
