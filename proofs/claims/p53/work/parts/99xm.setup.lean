/-! the law's setup: the text that it builds (printed by wip/p53/new/xm.py) -/
/-- the text's pieces: classes with manners f, askers with credits c and weights v, the rest -/
def clsT (f : Nat → Nat) : Nat → List Int32
  | 0 => []
  | n + 1 => clsT f n ++ txb 22 ++ [nI (97 + n)] ++ txb (mtx (f n)) ++ [nI 59]
def askT (l : List Int32) (c v : Nat → Nat) : Nat → List Int32
  | 0 => l
  | n + 1 => askT l c v n ++ txb 35 ++ [nI (109 + n)] ++ txb 36 ++ digs (c n) ++ txb 37 ++ digs (v n) ++ [nI 59]
def setT (l : List Int32) (t a1 a2 a3 a4 a5 : Nat) : List Int32 := l ++ txb 38 ++ txb (if t = 0 then 10 else 9) ++ txb 39 ++ digs a1 ++ txb 40 ++ digs a2 ++ txb 41 ++ digs a3 ++ txb 42 ++ digs a4 ++ txb 43 ++ digs a5 ++ [nI 59]
theorem clsT_cg {f g : Nat → Nat} : ∀ n, (∀ i, i < n → f i = g i) → clsT f n = clsT g n
  | 0, _ => rfl
  | n + 1, h => by
    show clsT f n ++ txb 22 ++ [nI (97 + n)] ++ txb (mtx (f n)) ++ [nI 59] = clsT g n ++ txb 22 ++ [nI (97 + n)] ++ txb (mtx (g n)) ++ [nI 59]
    rw [clsT_cg n (fun i hi => h i (by omega)), h n (by omega)]
theorem askT_cg {l : List Int32} {c g v u : Nat → Nat} : ∀ n, (∀ i, i < n → c i = g i ∧ v i = u i) → askT l c v n = askT l g u n
  | 0, _ => rfl
  | n + 1, h => by
    show askT l c v n ++ txb 35 ++ [nI (109 + n)] ++ txb 36 ++ digs (c n) ++ txb 37 ++ digs (v n) ++ [nI 59] = askT l g u n ++ txb 35 ++ [nI (109 + n)] ++ txb 36 ++ digs (g n) ++ txb 37 ++ digs (u n) ++ [nI 59]
    rw [askT_cg n (fun i hi => h i (by omega)), (h n (by omega)).1, (h n (by omega)).2]
def upn (f : Nat → Nat) (k r : Nat) : Nat → Nat := fun i => if i = k then r else f i
theorem upn_at {f : Nat → Nat} {k r : Nat} : upn f k r k = r := if_pos rfl
theorem upn_ne {f : Nat → Nat} {k r i : Nat} (h : i ≠ k) : upn f k r i = f i := if_neg h
theorem tlen : ((txb 22).length = 6 ∧ (txb 35).length = 7 - 1 ∧ (txb 36).length = 9 ∧ (txb 37).length = 8) ∧ ((txb 38).length = 6 ∧ (txb 10).length = 5 ∧ (txb 9).length = 6 ∧ (txb 39).length = 6) ∧ ((txb 40).length = 7 ∧ (txb 41).length = 6 ∧ (txb 42).length = 6 ∧ (txb 43).length = 9) := by decide +kernel
theorem mtx_len (m : Nat) : (txb (mtx m)).length ≤ 6 ∧ mtx m < txn := by
  unfold mtx
  by_cases h1 : m = 1
  · rw [if_pos h1]; decide +kernel
  · rw [if_neg h1]
    by_cases h2 : m = 2
    · rw [if_pos h2]; decide +kernel
    · rw [if_neg h2]
      by_cases h3 : m = 3
      · rw [if_pos h3]; decide +kernel
      · rw [if_neg h3]; decide +kernel
theorem dgn_le (v : Nat) : dgn v ≤ 2 := by unfold dgn; split <;> omega
theorem chr97 : ∀ k, k < 16 → ((97 + nI k).toUInt32 % 65536).toInt32 = nI (97 + k) := by decide +kernel
theorem chr109 : ∀ k, k < 16 → ((109 + nI k).toUInt32 % 65536).toInt32 = nI (109 + k) := by decide +kernel
theorem clsT_len (f : Nat → Nat) : ∀ n, (clsT f n).length ≤ 14 * n
  | 0 => Nat.le_refl _
  | n + 1 => by
    have h := clsT_len f n
    have h2 := tlen.1
    have h3 := (mtx_len (f n)).1
    show (clsT f n ++ txb 22 ++ [nI (97 + n)] ++ txb (mtx (f n)) ++ [nI 59]).length ≤ _
    simp only [List.length_append, List.length_cons, List.length_nil]
    omega
theorem askT_len (l : List Int32) (c v : Nat → Nat) (hv : ∀ i, v i < 10) : ∀ n, (askT l c v n).length ≤ l.length + 28 * n
  | 0 => Nat.le_refl _
  | n + 1 => by
    have h := askT_len l c v hv n
    have h2 := tlen.1
    have h3 := dgn_le (c n)
    have h4 : dgn (v n) = 1 := if_pos (hv n)
    show (askT l c v n ++ txb 35 ++ [nI (109 + n)] ++ txb 36 ++ digs (c n) ++ txb 37 ++ digs (v n) ++ [nI 59]).length ≤ _
    simp only [List.length_append, List.length_cons, List.length_nil, digs_len]
    omega
theorem c_185a {L C A R : Nat} {Y0 : Sm} {P : Option Av → Sm → Prop} (hL : L ≤ 3072) (hC5 : C ≤ 5) (kk : ∀ Y N j f, TK Y0 Y → TB Y N j (clsT f C) → (∀ i, f i ≤ 3) → WL L 185 10 11000 R 58 [(0, aR 68 0), (1, aI (nI C)), (2, aI (nI A)), (3, aR 49 0), (4, aI (nI C))] [] Y P nX) : ∀ n k Y N j f, k + n = C → TK Y0 Y → TB Y N j (clsT f k) → (∀ i, f i ≤ 3) → WL L 185 10 11000 (R + 468 * n) 11 [(0, aR 68 0), (1, aI (nI C)), (2, aI (nI A)), (3, aR 49 0), (4, aI (nI k))] [] Y P nX
  | 0, k, Y, N, j, f, hk, hK, hT, hf => by
    have hkC : k = C := by omega
    subst hkC
    refine m_sg k185 2 (fun _ => rfl) trivial ?_
    refine m_icmp_ge k185 rfl (fun _ => kk Y N j f hK hT hf) (fun h => absurd (nI_le (Nat.le_refl _) (by omega)) h)
  | n + 1, k, Y, N, j, f, hk, hK, hT, hf => by
    have hl := clsT_len f k
    have ht := tlen.1
    have er : R + 468 * (n + 1) = R + 468 * n + 468 := by omega
    rw [er]
    refine m_sg k185 2 (fun _ => rfl) trivial ?_
    refine m_icmp_ge k185 rfl (fun h => absurd h (nI_ge (by omega) (by omega))) (fun _ => ?_)
    refine m_sg k185 2 (fun _ => rfl) trivial ?_
    refine m_xV k185 (n := R + 468 * n + 351) (As := [aS 22]) (c_202 hT (by decide) (by simp only [slen, List.length_append, List.length_cons, List.length_nil, digs_len]; omega)) nX_no rfl rfl (fun w W1 h9 => ?_)
    obtain ⟨rfl, hK9, N, j, hT⟩ := h9
    replace hK := hK.trans hK9
    refine m_sg k185 4 (fun _ => rfl) trivial ?_
    rw [chr97 k (by omega)]
    refine m_xV k185 (n := R + 468 * n + 234) (As := [aI (nI (97 + k))]) (c_204 hT (by omega) (by simp only [slen, List.length_append, List.length_cons, List.length_nil, digs_len]; omega)) nX_no rfl rfl (fun w W2 h9 => ?_)
    obtain ⟨rfl, hK9, N, j, hT⟩ := h9
    replace hK := hK.trans hK9
    refine m_sg k185 4 (fun _ => rfl) trivial ?_
    refine m_xS k185 (n := R + 468 * n + 234) (As := [aR 68 0, aI (nI k), aI (nI 0), aI (nI 3)]) (c_181 hL (by omega) (by omega) (by omega)) nX_no rfl rfl (fun w W3 h9 => ?_)
    obtain ⟨e9, r, r0, r1, rfl⟩ := h9
    cases e9
    refine m_xS k185 (n := R + 468 * n + 234) (As := [aI (nI r)]) (c_184 r1) nX_no rfl rfl (fun w X h9 => ?_)
    obtain ⟨e9, rfl⟩ := h9
    cases e9
    have hm := mtx_len r
    refine m_xV k185 (n := R + 468 * n + 117) (As := [aS (mtx r)]) (c_202 hT hm.2 (by simp only [slen, List.length_append, List.length_cons, List.length_nil, digs_len]; omega)) nX_no rfl rfl (fun w X2 h9 => ?_)
    obtain ⟨rfl, hK9, N, j, hT⟩ := h9
    replace hK := hK.trans hK9
    refine m_sg k185 1 (fun _ => rfl) trivial ?_
    refine m_xV k185 (n := R + 468 * n + 0) (As := [aI (nI 59)]) (c_204 hT (by decide) (by simp only [slen, List.length_append, List.length_cons, List.length_nil, digs_len]; omega)) nX_no rfl rfl (fun w W4 h9 => ?_)
    obtain ⟨rfl, hK9, N, j, hT⟩ := h9
    replace hK := hK.trans hK9
    refine m_sg k185 3 (fun _ => rfl) trivial ?_
    rw [show nI k + 1 = nI (k + 1) from nI_1 k]
    refine c_185a hL hC5 kk n (k + 1) _ N j (upn f k r) (by omega) hK ?_ (fun i => ?_)
    · show TB _ N j (clsT (upn f k r) k ++ txb 22 ++ [nI (97 + k)] ++ txb (mtx (upn f k r k)) ++ [nI 59])
      rw [upn_at, clsT_cg (g := f) k (fun i hi => upn_ne (by omega))]
      exact hT
    · unfold upn
      split
      · exact r1
      · exact hf i
theorem c_185b {L C A R : Nat} {Y0 : Sm} {l : List Int32} {P : Option Av → Sm → Prop} (hL : L ≤ 3072) (hl0 : l.length ≤ 70) (hA8 : A ≤ 8) (kk : ∀ Y N j c v, TK Y0 Y → TB Y N j (askT l c v A) → (∀ i, c i ≤ 30 ∧ v i < 10 ∧ 1 ≤ v i) → WL L 185 10 11000 R 133 [(0, aR 68 0), (1, aI (nI C)), (2, aI (nI A)), (3, aR 49 0), (4, aI (nI A))] [] Y P nX) : ∀ n k Y N j c v, k + n = A → TK Y0 Y → TB Y N j (askT l c v k) → (∀ i, c i ≤ 30 ∧ v i < 10 ∧ 1 ≤ v i) → WL L 185 10 11000 (R + 819 * n) 61 [(0, aR 68 0), (1, aI (nI C)), (2, aI (nI A)), (3, aR 49 0), (4, aI (nI k))] [] Y P nX
  | 0, k, Y, N, j, c, v, hk, hK, hT, hf => by
    have hkC : k = A := by omega
    subst hkC
    refine m_sg k185 2 (fun _ => rfl) trivial ?_
    refine m_icmp_ge k185 rfl (fun _ => kk Y N j c v hK hT hf) (fun h => absurd (nI_le (Nat.le_refl _) (by omega)) h)
  | n + 1, k, Y, N, j, c, v, hk, hK, hT, hf => by
    have hl := askT_len l c v (fun i => (hf i).2.1) k
    have ht := tlen.1
    have er : R + 819 * (n + 1) = R + 819 * n + 819 := by omega
    rw [er]
    refine m_sg k185 2 (fun _ => rfl) trivial ?_
    refine m_icmp_ge k185 rfl (fun h => absurd h (nI_ge (by omega) (by omega))) (fun _ => ?_)
    refine m_sg k185 2 (fun _ => rfl) trivial ?_
    refine m_xV k185 (n := R + 819 * n + 702) (As := [aS 35]) (c_202 hT (by decide) (by simp only [slen, List.length_append, List.length_cons, List.length_nil, digs_len]; omega)) nX_no rfl rfl (fun w W5 h9 => ?_)
    obtain ⟨rfl, hK9, N, j, hT⟩ := h9
    replace hK := hK.trans hK9
    refine m_sg k185 4 (fun _ => rfl) trivial ?_
    rw [chr109 k (by omega)]
    refine m_xV k185 (n := R + 819 * n + 585) (As := [aI (nI (109 + k))]) (c_204 hT (by omega) (by simp only [slen, List.length_append, List.length_cons, List.length_nil, digs_len]; omega)) nX_no rfl rfl (fun w W6 h9 => ?_)
    obtain ⟨rfl, hK9, N, j, hT⟩ := h9
    replace hK := hK.trans hK9
    refine m_sg k185 1 (fun _ => rfl) trivial ?_
    refine m_xV k185 (n := R + 819 * n + 468) (As := [aS 36]) (c_202 hT (by decide) (by simp only [slen, List.length_append, List.length_cons, List.length_nil, digs_len]; omega)) nX_no rfl rfl (fun w W7 h9 => ?_)
    obtain ⟨rfl, hK9, N, j, hT⟩ := h9
    replace hK := hK.trans hK9
    refine m_sg k185 6 (fun _ => rfl) trivial ?_
    rw [show 5 + nI k = nI (5 + k) from nI_add 5 k]
    refine m_xS k185 (n := R + 819 * n + 468) (As := [aR 68 0, aI (nI (5 + k)), aI (nI 0), aI (nI 30)]) (c_181 hL (by omega) (by omega) (by omega)) nX_no rfl rfl (fun w W8 h9 => ?_)
    obtain ⟨e9, r, r0, r1, rfl⟩ := h9
    cases e9
    have hd1 := dgn_le r
    refine m_xV k185 (n := R + 819 * n + 351) (As := [aI (nI r)]) (c_206 hT (by omega) (by simp only [slen, List.length_append, List.length_cons, List.length_nil, digs_len]; omega)) nX_no rfl rfl (fun w W9 h9 => ?_)
    obtain ⟨rfl, hK9, N, j, hT⟩ := h9
    replace hK := hK.trans hK9
    refine m_sg k185 1 (fun _ => rfl) trivial ?_
    refine m_xV k185 (n := R + 819 * n + 234) (As := [aS 37]) (c_202 hT (by decide) (by simp only [slen, List.length_append, List.length_cons, List.length_nil, digs_len]; omega)) nX_no rfl rfl (fun w W10 h9 => ?_)
    obtain ⟨rfl, hK9, N, j, hT⟩ := h9
    replace hK := hK.trans hK9
    refine m_sg k185 6 (fun _ => rfl) trivial ?_
    rw [show 13 + nI k = nI (13 + k) from nI_add 13 k]
    refine m_xS k185 (n := R + 819 * n + 234) (As := [aR 68 0, aI (nI (13 + k)), aI (nI 1), aI (nI 9)]) (c_181 hL (by omega) (by omega) (by omega)) nX_no rfl rfl (fun w W11 h9 => ?_)
    obtain ⟨e9, r2, r20, r21, rfl⟩ := h9
    cases e9
    have hd2 : dgn r2 = 1 := if_pos (by omega)
    refine m_xV k185 (n := R + 819 * n + 117) (As := [aI (nI r2)]) (c_206 hT (by omega) (by simp only [slen, List.length_append, List.length_cons, List.length_nil, digs_len]; omega)) nX_no rfl rfl (fun w W12 h9 => ?_)
    obtain ⟨rfl, hK9, N, j, hT⟩ := h9
    replace hK := hK.trans hK9
    refine m_sg k185 1 (fun _ => rfl) trivial ?_
    refine m_xV k185 (n := R + 819 * n + 0) (As := [aI (nI 59)]) (c_204 hT (by decide) (by simp only [slen, List.length_append, List.length_cons, List.length_nil, digs_len]; omega)) nX_no rfl rfl (fun w W13 h9 => ?_)
    obtain ⟨rfl, hK9, N, j, hT⟩ := h9
    replace hK := hK.trans hK9
    refine m_sg k185 3 (fun _ => rfl) trivial ?_
    rw [show nI k + 1 = nI (k + 1) from nI_1 k]
    refine c_185b hL hl0 hA8 kk n (k + 1) _ N j (upn c k r) (upn v k r2) (by omega) hK ?_ (fun i => ?_)
    · show TB _ N j (askT l (upn c k r) (upn v k r2) k ++ txb 35 ++ [nI (109 + k)] ++ txb 36 ++ digs (upn c k r k) ++ txb 37 ++ digs (upn v k r2 k) ++ [nI 59])
      rw [upn_at, upn_at, askT_cg (g := c) (u := v) k (fun i hi => ⟨upn_ne (by omega), upn_ne (by omega)⟩)]
      exact hT
    · by_cases e : i = k
      · subst e
        rw [upn_at, upn_at]
        omega
      · rw [upn_ne e, upn_ne e]
        exact hf i
/-- what the drawn numbers are -/
def PRS (t a1 a2 a3 a4 a5 : Nat) : Prop := t ≤ 1 ∧ (1 ≤ a1 ∧ a1 ≤ 6) ∧ (1 ≤ a2 ∧ a2 ≤ 9) ∧ a3 ≤ 20 ∧ a4 ≤ 40 ∧ (1 ≤ a5 ∧ a5 ≤ 9)
theorem TK.tk2 {Y Z W : Sm} (h : TK Y Z) (h2 : TK2 Z W) : TK2 Y W := ⟨fun k i j a b c => (h2.1 k i j a b c).trans (h.1 k i j a b), h2.2.1.trans h.2.1, fun q a => (h2.2.2 q a).trans (h.2.2.1 q (by omega))⟩
theorem c_185c {L C A N j : Nat} {Y0 Y : Sm} {l : List Int32} {P : Option Av → Sm → Prop} (hL : L ≤ 3072) (hl : l.length ≤ 294) (hK : TK Y0 Y) (hT : TB Y N j l) (h50 : Y0.2 2050 = 0) (h12 : Y0.2 10002 = 0) (kk : ∀ Z t a1 a2 a3 a4 a5, TK2 Y0 Z → PRS t a1 a2 a3 a4 a5 → ST Z (setT l t a1 a2 a3 a4 a5) → P (some (aR 50 0)) Z) : WL L 185 10 11000 1639 133 [(0, aR 68 0), (1, aI (nI C)), (2, aI (nI A)), (3, aR 49 0), (4, aI (nI A))] [] Y P nX := by
  have ht := tlen.2
  refine m_sg k185 2 (fun _ => rfl) trivial ?_
  refine m_xV k185 (n := 1522) (As := [aS 38]) (c_202 hT (by decide) (by simp only [slen, List.length_append, List.length_cons, List.length_nil, digs_len]; omega)) nX_no rfl rfl (fun w W14 h9 => ?_)
  obtain ⟨rfl, hK9, N, j, hT⟩ := h9
  replace hK := hK.trans hK9
  refine m_sg k185 4 (fun _ => rfl) trivial ?_
  refine m_xS k185 (n := 1522) (As := [aR 68 0, aI (nI 21), aI (nI 0), aI (nI 1)]) (c_181 hL (by omega) (by omega) (by omega)) nX_no rfl rfl (fun w W15 h9 => ?_)
  obtain ⟨e9, t, t0, t1, rfl⟩ := h9
  cases e9
  have hj9 : ∀ tx, tx = (if t = 0 then 10 else 9) → tx < txn → (txb tx).length ≤ 6 → WL L 185 10 11000 1522 157 [(0, aR 68 0), (1, aI (nI C)), (2, aI (nI A)), (3, aR 49 0), (4, aI (nI A))] [aS tx, aR 49 0] W14 P nX := fun tx etx ltx l6 => by
    refine m_xV k185 (n := 1405) (As := [aS tx]) (c_202 hT ltx (by simp only [slen, List.length_append, List.length_cons, List.length_nil, digs_len]; omega)) nX_no rfl rfl (fun w X h9 => ?_)
    obtain ⟨rfl, hK9, N, j, hT⟩ := h9
    replace hK := hK.trans hK9
    refine m_sg k185 1 (fun _ => rfl) trivial ?_
    refine m_xV k185 (n := 1288) (As := [aS 39]) (c_202 hT (by decide) (by simp only [slen, List.length_append, List.length_cons, List.length_nil, digs_len]; omega)) nX_no rfl rfl (fun w W16 h9 => ?_)
    obtain ⟨rfl, hK9, N, j, hT⟩ := h9
    replace hK := hK.trans hK9
    refine m_sg k185 4 (fun _ => rfl) trivial ?_
    refine m_xS k185 (n := 1288) (As := [aR 68 0, aI (nI 22), aI (nI 1), aI (nI 6)]) (c_181 hL (by omega) (by omega) (by omega)) nX_no rfl rfl (fun w W17 h9 => ?_)
    obtain ⟨e9, a1, a10, a11, rfl⟩ := h9
    cases e9
    have hda1 : dgn a1 = 1 := if_pos (by omega)
    refine m_xV k185 (n := 1171) (As := [aI (nI a1)]) (c_206 hT (by omega) (by simp only [slen, List.length_append, List.length_cons, List.length_nil, digs_len]; omega)) nX_no rfl rfl (fun w W18 h9 => ?_)
    obtain ⟨rfl, hK9, N, j, hT⟩ := h9
    replace hK := hK.trans hK9
    refine m_sg k185 1 (fun _ => rfl) trivial ?_
    refine m_xV k185 (n := 1054) (As := [aS 40]) (c_202 hT (by decide) (by simp only [slen, List.length_append, List.length_cons, List.length_nil, digs_len]; omega)) nX_no rfl rfl (fun w W19 h9 => ?_)
    obtain ⟨rfl, hK9, N, j, hT⟩ := h9
    replace hK := hK.trans hK9
    refine m_sg k185 4 (fun _ => rfl) trivial ?_
    refine m_xS k185 (n := 1054) (As := [aR 68 0, aI (nI 23), aI (nI 1), aI (nI 9)]) (c_181 hL (by omega) (by omega) (by omega)) nX_no rfl rfl (fun w W20 h9 => ?_)
    obtain ⟨e9, a2, a20, a21, rfl⟩ := h9
    cases e9
    have hda2 : dgn a2 = 1 := if_pos (by omega)
    refine m_xV k185 (n := 937) (As := [aI (nI a2)]) (c_206 hT (by omega) (by simp only [slen, List.length_append, List.length_cons, List.length_nil, digs_len]; omega)) nX_no rfl rfl (fun w W21 h9 => ?_)
    obtain ⟨rfl, hK9, N, j, hT⟩ := h9
    replace hK := hK.trans hK9
    refine m_sg k185 1 (fun _ => rfl) trivial ?_
    refine m_xV k185 (n := 820) (As := [aS 41]) (c_202 hT (by decide) (by simp only [slen, List.length_append, List.length_cons, List.length_nil, digs_len]; omega)) nX_no rfl rfl (fun w W22 h9 => ?_)
    obtain ⟨rfl, hK9, N, j, hT⟩ := h9
    replace hK := hK.trans hK9
    refine m_sg k185 4 (fun _ => rfl) trivial ?_
    refine m_xS k185 (n := 820) (As := [aR 68 0, aI (nI 24), aI (nI 0), aI (nI 20)]) (c_181 hL (by omega) (by omega) (by omega)) nX_no rfl rfl (fun w W23 h9 => ?_)
    obtain ⟨e9, a3, a30, a31, rfl⟩ := h9
    cases e9
    have hda3 := dgn_le a3
    refine m_xV k185 (n := 703) (As := [aI (nI a3)]) (c_206 hT (by omega) (by simp only [slen, List.length_append, List.length_cons, List.length_nil, digs_len]; omega)) nX_no rfl rfl (fun w W24 h9 => ?_)
    obtain ⟨rfl, hK9, N, j, hT⟩ := h9
    replace hK := hK.trans hK9
    refine m_sg k185 1 (fun _ => rfl) trivial ?_
    refine m_xV k185 (n := 586) (As := [aS 42]) (c_202 hT (by decide) (by simp only [slen, List.length_append, List.length_cons, List.length_nil, digs_len]; omega)) nX_no rfl rfl (fun w W25 h9 => ?_)
    obtain ⟨rfl, hK9, N, j, hT⟩ := h9
    replace hK := hK.trans hK9
    refine m_sg k185 4 (fun _ => rfl) trivial ?_
    refine m_xS k185 (n := 586) (As := [aR 68 0, aI (nI 25), aI (nI 0), aI (nI 40)]) (c_181 hL (by omega) (by omega) (by omega)) nX_no rfl rfl (fun w W26 h9 => ?_)
    obtain ⟨e9, a4, a40, a41, rfl⟩ := h9
    cases e9
    have hda4 := dgn_le a4
    refine m_xV k185 (n := 469) (As := [aI (nI a4)]) (c_206 hT (by omega) (by simp only [slen, List.length_append, List.length_cons, List.length_nil, digs_len]; omega)) nX_no rfl rfl (fun w W27 h9 => ?_)
    obtain ⟨rfl, hK9, N, j, hT⟩ := h9
    replace hK := hK.trans hK9
    refine m_sg k185 1 (fun _ => rfl) trivial ?_
    refine m_xV k185 (n := 352) (As := [aS 43]) (c_202 hT (by decide) (by simp only [slen, List.length_append, List.length_cons, List.length_nil, digs_len]; omega)) nX_no rfl rfl (fun w W28 h9 => ?_)
    obtain ⟨rfl, hK9, N, j, hT⟩ := h9
    replace hK := hK.trans hK9
    refine m_sg k185 4 (fun _ => rfl) trivial ?_
    refine m_xS k185 (n := 352) (As := [aR 68 0, aI (nI 26), aI (nI 1), aI (nI 9)]) (c_181 hL (by omega) (by omega) (by omega)) nX_no rfl rfl (fun w W29 h9 => ?_)
    obtain ⟨e9, a5, a50, a51, rfl⟩ := h9
    cases e9
    have hda5 : dgn a5 = 1 := if_pos (by omega)
    refine m_xV k185 (n := 235) (As := [aI (nI a5)]) (c_206 hT (by omega) (by simp only [slen, List.length_append, List.length_cons, List.length_nil, digs_len]; omega)) nX_no rfl rfl (fun w W30 h9 => ?_)
    obtain ⟨rfl, hK9, N, j, hT⟩ := h9
    replace hK := hK.trans hK9
    refine m_sg k185 1 (fun _ => rfl) trivial ?_
    refine m_xV k185 (n := 118) (As := [aI (nI 59)]) (c_204 hT (by decide) (by simp only [slen, List.length_append, List.length_cons, List.length_nil, digs_len]; omega)) nX_no rfl rfl (fun w W31 h9 => ?_)
    obtain ⟨rfl, hK9, N, j, hT⟩ := h9
    replace hK := hK.trans hK9
    refine m_sg k185 2 (fun _ => rfl) trivial ?_
    refine m_xV k185 (n := 0) (As := []) (c_218 hT ((hK.2.2.1 2050 (by omega)).trans h50) ((hK.2.2.2 10002 (by omega) (by omega) (by omega)).trans h12)) nX_no rfl rfl (fun w Z h9 => ?_)
    obtain ⟨rfl, hK2, hS⟩ := h9
    refine m_areturn k185 (kk Z t a1 a2 a3 a4 a5 (hK.tk2 hK2) ⟨by omega, by omega, by omega, by omega, by omega, by omega⟩ ?_) rfl rfl (Or.inl ⟨_, rfl⟩) rfl
    unfold setT
    rw [← etx]
    exact hS
  refine m_if_ne k185 rfl (fun h => ?_) (fun h => ?_)
  · refine m_sg k185 1 (fun _ => rfl) trivial ?_
    exact hj9 9 (by rw [if_neg (fun e => h (by rw [e]; rfl))]) (by decide) (by omega)
  · refine m_sg k185 2 (fun _ => rfl) trivial ?_
    have h0 : t = 0 := (nI_eq (b := 0) (by omega) (by omega)).mp h
    exact hj9 10 (by rw [if_pos h0]) (by decide) (by omega)
theorem c_185 {L C A : Nat} {Y : Sm} (hL : L ≤ 3072) (hC5 : C ≤ 5) (hA8 : A ≤ 8) (h49 : Y.2 2049 = 0) (h50 : Y.2 2050 = 0) (h10 : Y.2 10000 = 0) (h12 : Y.2 10002 = 0) : ML L 10 11000 185 [aR 68 0, aI (nI C), aI (nI A)] Y (fun w Z => w = some (aR 50 0) ∧ TK2 Y Z ∧ ∃ f c v t a1 a2 a3 a4 a5, (∀ i, f i ≤ 3) ∧ (∀ i, c i ≤ 30 ∧ v i < 10 ∧ 1 ≤ v i) ∧ PRS t a1 a2 a3 a4 a5 ∧ ST Z (setT (askT (clsT f C) c v A) t a1 a2 a3 a4 a5)) nX := by
  refine ML_of [(0, aR 68 0), (1, aI (nI C)), (2, aI (nI A))] ?_
  have h0 : cF Y.2 49 = 0 := (cF_x (by omega) (by omega) (by omega) (by omega)).trans h49
  refine m_le (n := 1639 + 819 * A + 468 * C + 3 + 1) (by omega) ?_
  refine m_newO k185 49 (nf := 4) (n := 1639 + 819 * A + 468 * C + 3) rfl rfl rfl rfl (by omega) (fun q => ?_) (by omega) (fun hz => ?_)
  · rw [h0]
    show sr49 Y.2 0 q = none
    unfold sr49
    rw [show 10000 + 4 * 0 = 10000 from rfl, h10]
    cases Nat.beq q 0 <;> rfl
  rw [h0] at hz ⊢
  refine m_sg k185 1 (fun _ => rfl) trivial ?_
  refine m_xI k185 (n := 1639 + 819 * A + 468 * C) (c := 0) (As := []) (c_200 (hz 1) (hz 3)) nX_no rfl rfl (fun w Y1 h9 => ?_)
  obtain ⟨rfl, hK, N, j, hT⟩ := h9
  have hK0 : TK2 Y (mkC Y 49) := ⟨fun _ _ _ _ _ _ => rfl, rfl, fun q hq => ug_ne (by omega)⟩
  have h50' : (mkC Y 49).2 2050 = 0 := by
    show ug Y.2 (2000 + 49) (Y.2 (2000 + 49) + 1) 2050 = 0
    rw [ug_ne (by omega)]
    exact h50
  have h12' : (mkC Y 49).2 10002 = 0 := by
    show ug Y.2 (2000 + 49) (Y.2 (2000 + 49) + 1) 10002 = 0
    rw [ug_ne (by omega)]
    exact h12
  refine m_sg k185 3 (fun _ => rfl) trivial ?_
  refine c_185a (R := 1639 + 819 * A) (Y0 := mkC Y 49) hL hC5 (fun Y2 N j f hK hT hf => ?_) C 0 Y1 N j (fun _ => 0) (by omega) hK hT (fun _ => by omega)
  have hl := clsT_len f C
  refine m_sg k185 2 (fun _ => rfl) trivial ?_
  refine c_185b (R := 1639) (Y0 := mkC Y 49) (l := clsT f C) hL (by omega) hA8 (fun Y3 N j c v hK hT hcv => ?_) A 0 Y2 N j (fun _ => 0) (fun _ => 1) (by omega) hK hT (fun _ => by omega)
  have hl2 := askT_len (clsT f C) c v (fun i => (hcv i).2.1) A
  refine c_185c hL (by omega) hK hT h50' h12' (fun Z t a1 a2 a3 a4 a5 hK2 hP hS => ?_)
  exact ⟨rfl, ⟨fun k i q a b c => (hK2.1 k i q a b c).trans (hK0.1 k i q a b c), hK2.2.1, fun q a => (hK2.2.2 q a).trans (hK0.2.2 q a)⟩, f, c, v, t, a1, a2, a3, a4, a5, hf, hcv, hP, hS⟩
