/-! votes, by a row -/
abbrev Pm : Type := Nat × Nat × (Nat → Int32) × (Nat → Int32)
/-- the vote of an asker counts; lo is left out -/
def hdS (P : Pm) (r : Nat → Int32) (lo : Int32) (a : Nat) : Bool := !decide (nI a = lo) && decide (r (36 + a) < P.2.2.1 4)
def bal (r : Nat → Int32) (a p : Nat) : Int32 := r (78 + 5 * a + p)
def plc (P : Pm) (r : Nat → Int32) (a k : Nat) : Nat := srch (fun p => decide (bal r a p = nI k)) P.1
def ptsS (P : Pm) (r : Nat → Int32) (lo : Int32) (k : Nat) : Int32 := sumN (hdS P r lo) (fun a => P.2.2.2 a * (nI (P.1 - 1) - nI (plc P r a k))) P.2.1
def fstS (P : Pm) (r : Nat → Int32) (lo : Int32) (k p : Nat) : Int32 := sumN (fun a => hdS P r lo a && decide (bal r a p = nI k)) P.2.2.2 P.2.1
def leadS (P : Pm) (r : Nat → Int32) (lo : Int32) (k o : Nat) : Int32 := sumN (hdS P r lo) (fun a => if plc P r a k < plc P r a o then P.2.2.2 a else -(P.2.2.2 a)) P.2.1
def beatS (P : Pm) (r : Nat → Int32) (lo : Int32) (k o : Nat) : Bool := !decide (k = o) && decide (nI 0 < leadS P r lo k o)
def winsS (P : Pm) (r : Nat → Int32) (lo : Int32) (k : Nat) : Nat := cntN (beatS P r lo k) P.1
def anyS (P : Pm) (r : Nat → Int32) (lo : Int32) : Bool := !Nat.ble P.2.1 (srch (hdS P r lo) P.2.1)
def lexS (P : Pm) (r : Nat → Int32) (lo : Int32) (k o : Nat) : Nat := srch (fun p => !decide (fstS P r lo k p = fstS P r lo o p)) P.1
/-- a class comes ahead of another one by a tally -/
def betS (P : Pm) (r : Nat → Int32) (lo t : Int32) (k o : Nat) : Bool :=
  if t = nI 1 then cond (Nat.ble P.1 (lexS P r lo k o)) (decide (k < o)) (decide (fstS P r lo o (lexS P r lo k o) < fstS P r lo k (lexS P r lo k o)))
  else (if t = nI 2 ∧ ¬ winsS P r lo k = winsS P r lo o then decide (winsS P r lo o < winsS P r lo k)
  else (if ptsS P r lo k = ptsS P r lo o then decide (k < o) else decide (ptsS P r lo o < ptsS P r lo k)))
/-- the model holds the setup -/
def MP (Y : Sm) (P : Pm) : Prop := gI Y.1 48 0 1 = nI P.1 ∧ gI Y.1 48 0 2 = nI P.2.1 ∧ (0 < P.1 ∧ P.1 ≤ 5 ∧ 0 < P.2.1 ∧ P.2.1 ≤ 8) ∧ (∀ j, j < 5 → gI Y.1 48 0 (3 + j) = P.2.2.1 j) ∧ (∀ a, a < P.2.1 → gI Y.1 49 0 a = P.2.2.2 a)
/-- each ballot is an order of the classes -/
def BalI (r : Nat → Int32) (C A : Nat) : Prop := ∀ a, a < A → (∀ k, k < C → ∃ p, p < C ∧ bal r a p = nI k) ∧ (∀ p, p < C → ∃ k, k < C ∧ bal r a p = nI k)
theorem plc_lt {P : Pm} {r : Nat → Int32} (hB : BalI r P.1 P.2.1) {a k : Nat} (ha : a < P.2.1) (hk : k < P.1) : plc P r a k < P.1 := by
  obtain ⟨p, hp, e⟩ := (hB a ha).1 k hk
  exact srch_lt hp (decide_eq_true e)
theorem r_onBallot {Y : Sm} {a p : Nat} (ha : a < 8) (hp : p < 5) : fn_191 (nI a) (nI p) Y = some (bal (gI Y.1 52 0) a p, Y) := by
  unfold fn_191 bal
  simp (disch := omega) only [ck_in, ix_nI, pk_mul, nI_add, pk_sub, iteI_le_t, iteI_le_f, iteI_lt_t, iteI_lt_f, iteI_eq_t, iteI_eq_f, bd_t, wr_t, ite_m1_f, ite_m1_t, ↓reduceIte]
theorem r_counts {Y : Sm} {P : Pm} (h : MP Y P) {a : Nat} (ha : a < P.2.1) : fn_189 (nI a) Y = some (bI (hdS P (gI Y.1 52 0) (gI Y.1 48 0 19) a), Y) := by
  obtain ⟨h1, h2, h3, h4, h5⟩ := h
  unfold fn_189 hdS
  have e := h4 4 (by omega)
  by_cases c : nI a = gI Y.1 48 0 19
  · rw [if_pos c]; simp [c, bI]
  · rw [if_neg c]
    simp (disch := omega) only [ck_in, ix_nI, pk_mul, nI_add, pk_sub, iteI_le_t, iteI_le_f, iteI_lt_t, iteI_lt_f, iteI_eq_t, iteI_eq_f, bd_t, wr_t, ite_m1_f, ite_m1_t, ↓reduceIte, e]
    rw [ite_s, bI_iteN, dnle]
    simp [c]
theorem r_anyCount {Y : Sm} {P : Pm} (h : MP Y P) : fn_190 Y = some (bI (anyS P (gI Y.1 52 0) (gI Y.1 48 0 19)), Y) := by
  unfold fn_190
  have h8 := h.2.2.1.2.2.2
  refine (lp_srch (hdS P (gI Y.1 52 0) (gI Y.1 48 0 19)) P.2.1 (fun j => (bI (!Nat.ble P.2.1 j), Y)) (by omega) (fun j hj hp => ?_) (fun j hj hp => ?_) ?_).trans rfl
  · simp only [fn_190_L2, h.2.1]
    simp (disch := omega) only [ck_in, ix_nI, pk_mul, nI_add, pk_sub, iteI_le_t, iteI_le_f, iteI_lt_t, iteI_lt_f, iteI_eq_t, iteI_eq_f, bd_t, wr_t, ite_m1_f, ite_m1_t, ↓reduceIte, r_counts h hj, hp, bI_0, cnd_f]
  · simp only [fn_190_L2, h.2.1]
    simp (disch := omega) only [ck_in, ix_nI, pk_mul, nI_add, pk_sub, iteI_le_t, iteI_le_f, iteI_lt_t, iteI_lt_f, iteI_eq_t, iteI_eq_f, bd_t, wr_t, ite_m1_f, ite_m1_t, ↓reduceIte, r_counts h hj, hp, bI_0, cnd_t, ble_f hj]
    rfl
  · simp only [fn_190_L2, h.2.1]
    simp (disch := omega) only [ck_in, ix_nI, pk_mul, nI_add, pk_sub, iteI_le_t, iteI_le_f, iteI_lt_t, iteI_lt_f, iteI_eq_t, iteI_eq_f, bd_t, wr_t, ite_m1_f, ite_m1_t, ↓reduceIte, nbl]
    rfl
theorem r_placeOf {Y : Sm} {P : Pm} (h : MP Y P) (hB : BalI (gI Y.1 52 0) P.1 P.2.1) {a k : Nat} (ha : a < P.2.1) (hk : k < P.1) : fn_192 (nI a) (nI k) Y = some (nI (plc P (gI Y.1 52 0) a k), Y) := by
  have h3 := h.2.2.1
  unfold fn_192
  refine lp_find (fun p => decide (bal (gI Y.1 52 0) a p = nI k)) P.1 (fun j => (nI j, Y)) (by omega) (plc_lt hB ha hk) (fun j hj hp => ?_) (fun j hj hp => ?_)
  · have hp := of_decide_eq_false hp
    simp (disch := omega) only [fn_192_L2, ck_in, ix_nI, pk_mul, nI_add, pk_sub, iteI_le_t, iteI_le_f, iteI_lt_t, iteI_lt_f, iteI_eq_t, iteI_eq_f, bd_t, wr_t, ite_m1_f, ite_m1_t, ↓reduceIte, r_onBallot, if_neg hp]
  · have hp := of_decide_eq_true hp
    simp (disch := omega) only [fn_192_L2, ck_in, ix_nI, pk_mul, nI_add, pk_sub, iteI_le_t, iteI_le_f, iteI_lt_t, iteI_lt_f, iteI_eq_t, iteI_eq_f, bd_t, wr_t, ite_m1_f, ite_m1_t, ↓reduceIte, r_onBallot, if_pos hp]
theorem r_pointsOf {Y : Sm} {P : Pm} (h : MP Y P) (hB : BalI (gI Y.1 52 0) P.1 P.2.1) {k : Nat} (hk : k < P.1) : fn_193 (nI k) Y = some (ptsS P (gI Y.1 52 0) (gI Y.1 48 0 19) k, Y) := by
  have h3 := h.2.2.1
  unfold fn_193
  refine lp_sum (hdS P (gI Y.1 52 0) (gI Y.1 48 0 19)) _ P.2.1 (by omega) (fun j acc hj => ?_) (fun acc => ?_)
  · simp only [fn_193_L4, h.2.1]
    simp (disch := omega) only [ck_in, ix_nI, pk_mul, nI_add, pk_sub, iteI_le_t, iteI_le_f, iteI_lt_t, iteI_lt_f, iteI_eq_t, iteI_eq_f, bd_t, wr_t, ite_m1_f, ite_m1_t, ↓reduceIte, r_counts h hj, bI_0, r_placeOf h hB hj hk, h.1, h.2.2.2.2 j hj]
    cases hdS P (gI Y.1 52 0) (gI Y.1 48 0 19) j <;> rfl
  · simp only [fn_193_L4, h.2.1]
    simp (disch := omega) only [ck_in, ix_nI, pk_mul, nI_add, pk_sub, iteI_le_t, iteI_le_f, iteI_lt_t, iteI_lt_f, iteI_eq_t, iteI_eq_f, bd_t, wr_t, ite_m1_f, ite_m1_t, ↓reduceIte]
theorem r_firstsOf {Y : Sm} {P : Pm} (h : MP Y P) {k p : Nat} (hp : p < P.1) : fn_194 (nI k) (nI p) Y = some (fstS P (gI Y.1 52 0) (gI Y.1 48 0 19) k p, Y) := by
  have h3 := h.2.2.1
  unfold fn_194
  refine lp_sum (fun a => hdS P (gI Y.1 52 0) (gI Y.1 48 0 19) a && decide (bal (gI Y.1 52 0) a p = nI k)) P.2.2.2 P.2.1 (by omega) (fun j acc hj => ?_) (fun acc => ?_)
  · simp only [fn_194_L5, h.2.1]
    simp (disch := omega) only [ck_in, ix_nI, pk_mul, nI_add, pk_sub, iteI_le_t, iteI_le_f, iteI_lt_t, iteI_lt_f, iteI_eq_t, iteI_eq_f, bd_t, wr_t, ite_m1_f, ite_m1_t, ↓reduceIte, r_counts h hj, bI_0, r_onBallot, h.2.2.2.2 j hj]
    cases hdS P (gI Y.1 52 0) (gI Y.1 48 0 19) j with
    | false => rfl
    | true =>
      by_cases c : bal (gI Y.1 52 0) j p = nI k
      · simp [c]
      · simp [c]
  · simp only [fn_194_L5, h.2.1]
    simp (disch := omega) only [ck_in, ix_nI, pk_mul, nI_add, pk_sub, iteI_le_t, iteI_le_f, iteI_lt_t, iteI_lt_f, iteI_eq_t, iteI_eq_f, bd_t, wr_t, ite_m1_f, ite_m1_t, ↓reduceIte]
theorem r_leadOf {Y : Sm} {P : Pm} (h : MP Y P) (hB : BalI (gI Y.1 52 0) P.1 P.2.1) {k o : Nat} (hk : k < P.1) (ho : o < P.1) : fn_195 (nI k) (nI o) Y = some (leadS P (gI Y.1 52 0) (gI Y.1 48 0 19) k o, Y) := by
  have h3 := h.2.2.1
  unfold fn_195
  refine lp_sum (hdS P (gI Y.1 52 0) (gI Y.1 48 0 19)) _ P.2.1 (by omega) (fun j acc hj => ?_) (fun acc => ?_)
  · simp only [fn_195_L5, h.2.1]
    have hx := plc_lt hB hj hk
    have hy := plc_lt hB hj ho
    simp (disch := omega) only [ck_in, ix_nI, pk_mul, nI_add, pk_sub, iteI_le_t, iteI_le_f, iteI_lt_t, iteI_lt_f, iteI_eq_t, iteI_eq_f, bd_t, wr_t, ite_m1_f, ite_m1_t, ↓reduceIte, r_counts h hj, bI_0, r_placeOf h hB hj hk, r_placeOf h hB hj ho, h.2.2.2.2 j hj]
    cases hdS P (gI Y.1 52 0) (gI Y.1 48 0 19) j with
    | false => rfl
    | true =>
      by_cases c : plc P (gI Y.1 52 0) j k < plc P (gI Y.1 52 0) j o
      · simp (disch := omega) only [iteI_le_f, if_pos c, cnd_t]
      · simp (disch := omega) only [iteI_le_t, if_neg c, cnd_t]
  · simp only [fn_195_L5, h.2.1]
    simp (disch := omega) only [ck_in, ix_nI, pk_mul, nI_add, pk_sub, iteI_le_t, iteI_le_f, iteI_lt_t, iteI_lt_f, iteI_eq_t, iteI_eq_f, bd_t, wr_t, ite_m1_f, ite_m1_t, ↓reduceIte]
theorem r_doesBeat {Y : Sm} {P : Pm} (h : MP Y P) (hB : BalI (gI Y.1 52 0) P.1 P.2.1) {k o : Nat} (hk : k < P.1) (ho : o < P.1) : fn_196 (nI k) (nI o) Y = some (bI (beatS P (gI Y.1 52 0) (gI Y.1 48 0 19) k o), Y) := by
  have h3 := h.2.2.1
  unfold fn_196 beatS
  by_cases c : k = o
  · subst c
    simp [bI]
  · simp (disch := omega) only [ck_in, ix_nI, pk_mul, nI_add, pk_sub, iteI_le_t, iteI_le_f, iteI_lt_t, iteI_lt_f, iteI_eq_t, iteI_eq_f, bd_t, wr_t, ite_m1_f, ite_m1_t, ↓reduceIte, r_leadOf h hB hk ho]
    rw [ite_s, bI_iteN, dnle]
    simp [c]
theorem r_winsOf {Y : Sm} {P : Pm} (h : MP Y P) (hB : BalI (gI Y.1 52 0) P.1 P.2.1) {k : Nat} (hk : k < P.1) : fn_197 (nI k) Y = some (nI (winsS P (gI Y.1 52 0) (gI Y.1 48 0 19) k), Y) := by
  have h3 := h.2.2.1
  unfold fn_197
  refine lp_cnt (beatS P (gI Y.1 52 0) (gI Y.1 48 0 19) k) P.1 (by omega) (fun j c hj => ?_) (fun c => ?_)
  · simp only [fn_197_L4, h.1]
    simp (disch := omega) only [ck_in, ix_nI, pk_mul, nI_add, pk_sub, iteI_le_t, iteI_le_f, iteI_lt_t, iteI_lt_f, iteI_eq_t, iteI_eq_f, bd_t, wr_t, ite_m1_f, ite_m1_t, ↓reduceIte, r_doesBeat h hB hk hj, bI_0]
    cases beatS P (gI Y.1 52 0) (gI Y.1 48 0 19) k j <;> rfl
  · simp only [fn_197_L4, h.1]
    simp (disch := omega) only [ck_in, ix_nI, pk_mul, nI_add, pk_sub, iteI_le_t, iteI_le_f, iteI_lt_t, iteI_lt_f, iteI_eq_t, iteI_eq_f, bd_t, wr_t, ite_m1_f, ite_m1_t, ↓reduceIte]
theorem winsS_le (P : Pm) (r : Nat → Int32) (lo : Int32) (k : Nat) : winsS P r lo k ≤ P.1 := cntN_le _ _
