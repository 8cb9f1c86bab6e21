/-! accounts; the output; the input -/
def bsN (g : Nat → Int32) : Nat → Nat
  | 0 => 0
  | j + 1 => if g (j + 1) ≤ g (bsN g j) then bsN g j else j + 1
theorem bsN_le (g : Nat → Int32) (j : Nat) : bsN g j ≤ j := by
  induction j with
  | zero => exact Nat.le_refl _
  | succ j ih =>
    unfold bsN
    split <;> omega
theorem w60 : ∀ w, w < 61 → (nI w).toInt64 - Int64.ofNat 1 = (nI w - nI 1).toInt64 := by decide +kernel
/-! only input, errors, output change -/
theorem sI_o {Y : Sm} {K I j : Nat} {v : Int32} {k i : Nat} (h : k ≠ K) : gI (sI Y K I j v).1 k i = gI Y.1 k i := by rw [gI_sIk h]
/-! feed -/
def by8 (w : Int32) (j : Nat) : Int32 := ((w >>> (nI (24 - 8 * j) &&& 31)).toInt8.toInt32).toInt8.toInt32
def lsF (j : Nat) : Int32 := if j = 0 then nI 24 else if j = 1 then nI 16 else if j = 2 then nI 8 else if j = 3 then nI 0 else (-8 : Int32)
theorem lsF_s : ∀ j, j < 4 → lsF j + (-8 : Int32) = lsF (j + 1) ∧ ¬ lsF j < nI 0 ∧ lsF j = nI (24 - 8 * j) := by decide
theorem c_17 {Y : Sm} {L : Nat} (a : Int32) (h1 : gI Y.1 1 0 1 = nI L) (hL : L + 4 ≤ 500) : fn_17 a Y = some ((), sI (sF Y 2 0 (fun q => if L ≤ q ∧ q < L + 4 then by8 a (q - L) else gI Y.1 2 0 q)) 1 0 1 (nI (L + 4))) := by
  unfold fn_17
  refine lp_run (fun j => (lsF j, sI (sF Y 2 0 (fun q => if L ≤ q ∧ q < L + j then by8 a (q - L) else gI Y.1 2 0 q)) 1 0 1 (nI (L + j)))) 4 (FU_lt (by omega)) (fun j hj => ?_) ?_ ?_
  · obtain ⟨l1, l2, l3⟩ := lsF_s j hj
    have e1 : gI (sI (sF Y 2 0 (fun q => if L ≤ q ∧ q < L + j then by8 a (q - L) else gI Y.1 2 0 q)) 1 0 1 (nI (L + j))).1 1 0 1 = nI (L + j) := by rw [gI_sIv, upd_at]
    simp only [fn_17_L3, e1]
    rw [if_neg l2, iteI_le_f (by omega) (by omega), ck_in (by omega) (by omega), ix_nI (by omega), wr_t, wr_t, l1]
    congr 3
    have e2 : gI (sI (sI (sF Y 2 0 (fun q => if L ≤ q ∧ q < L + j then by8 a (q - L) else gI Y.1 2 0 q)) 1 0 1 (nI (L + j))) 2 0 (L + j) (((a >>> (lsF j &&& 31)).toInt8.toInt32).toInt8.toInt32)).1 1 0 1 = nI (L + j) := by
      rw [gI_sIk (by omega)]; exact e1
    rw [e2, nI_add]
    have sw : ∀ (X : Sm) (v w : Int32) (p : Nat), sI (sI X 1 0 1 v) 2 0 p w = sI (sI X 2 0 p w) 1 0 1 v := fun X v w p => by
      have : (fun x y z => if x = 2 ∧ y = 0 ∧ z = p then w else if x = 1 ∧ y = 0 ∧ z = 1 then v else X.1.1 x y z) = (fun x y z => if x = 1 ∧ y = 0 ∧ z = 1 then v else if x = 2 ∧ y = 0 ∧ z = p then w else X.1.1 x y z) := by
        funext x y z
        by_cases g : x = 2 ∧ y = 0 ∧ z = p
        · rw [if_pos g, if_neg (by omega), if_pos g]
        · rw [if_neg g, if_neg g]
      exact congrArg (fun g => ((g, X.1.2), X.2)) this
    have ss : ∀ (X : Sm) (v w : Int32), sI (sI X 1 0 1 v) 1 0 1 w = sI X 1 0 1 w := fun X v w => by
      rw [sI_sF, sI_sF, sF_sF, gI_sFs, sI_sF]
      congr 1
      funext q
      by_cases g : q = 1
      · rw [g, upd_at, upd_at]
      · rw [upd_ne g, upd_ne g, upd_ne g]
    rw [sw, ss, sI_s]
    congr 2
    funext q
    by_cases g : q = L + j
    · subst g
      rw [upd_at, if_pos (by omega), l3, show L + j - L = j by omega]
      rfl
    · rw [upd_ne g]
      by_cases g2 : L ≤ q ∧ q < L + j
      · rw [if_pos g2, if_pos (by omega)]
      · rw [if_neg g2, if_neg (by omega)]
  · simp only [fn_17_L3]
    rw [if_pos (by decide)]
  · show _ = (nI 24, sI (sF Y 2 0 (fun q => if L ≤ q ∧ q < L + 0 then by8 a (q - L) else gI Y.1 2 0 q)) 1 0 1 (nI (L + 0)))
    have e : (fun q => if L ≤ q ∧ q < L + 0 then by8 a (q - L) else gI Y.1 2 0 q) = gI Y.1 2 0 := funext fun q => if_neg (by omega)
    rw [e, sF_self, Nat.add_zero, ← h1, sI_sF]
    congr 1
    have e2 : upd (gI Y.1 1 0) 1 (gI Y.1 1 0 1) = gI Y.1 1 0 := by
      funext q
      by_cases g : q = 1
      · rw [g, upd_at]
      · rw [upd_ne g]
    rw [e2, sF_self]
def argF (a b d e f : Int32) (i : Nat) : Int32 := if i = 0 then a else if i = 1 then b else if i = 2 then d else if i = 3 then e else f
def fedF (g : Nat → Int32) (L i : Nat) (A : Nat → Int32) : Nat → Int32 := fun q => if L ≤ q ∧ q < L + i then by8 (A ((q - L) / 4)) ((q - L) % 4) else g q
theorem c_17s {Y : Sm} {L i : Nat} {A : Nat → Int32} {g : Nat → Int32} (w : Int32) (hw : A i = w) (hL : L + 4 * i + 4 ≤ 500) : fn_17 w (sI (sF Y 2 0 (fedF g L (4 * i) A)) 1 0 1 (nI (L + 4 * i))) = some ((), sI (sF Y 2 0 (fedF g L (4 * (i + 1)) A)) 1 0 1 (nI (L + 4 * (i + 1)))) := by
  have e1 : gI (sI (sF Y 2 0 (fedF g L (4 * i) A)) 1 0 1 (nI (L + 4 * i))).1 1 0 1 = nI (L + 4 * i) := by rw [gI_sIv, upd_at]
  rw [c_17 w e1 hL, gI_sIk (by omega), gI_sFs]
  congr 2
  have sw : ∀ (X : Sm) (v : Int32) (f : Nat → Int32), sF (sI X 1 0 1 v) 2 0 f = sI (sF X 2 0 f) 1 0 1 v := fun X v f => by
    have : (fun x y z => if x = 2 ∧ y = 0 then f z else if x = 1 ∧ y = 0 ∧ z = 1 then v else X.1.1 x y z) = (fun x y z => if x = 1 ∧ y = 0 ∧ z = 1 then v else if x = 2 ∧ y = 0 then f z else X.1.1 x y z) := by
      funext x y z
      by_cases g : x = 2 ∧ y = 0
      · rw [if_pos g, if_neg (by omega), if_pos g]
      · rw [if_neg g, if_neg g]
    exact congrArg (fun g => ((g, X.1.2), X.2)) this
  have ss : ∀ (X : Sm) (v w : Int32), sI (sI X 1 0 1 v) 1 0 1 w = sI X 1 0 1 w := fun X v w => by
    rw [sI_sF, sI_sF, sF_sF, gI_sFs, sI_sF]
    congr 1
    funext q
    by_cases g : q = 1
    · rw [g, upd_at, upd_at]
    · rw [upd_ne g, upd_ne g, upd_ne g]
  rw [sw, ss, sF_sF, show L + 4 * i + 4 = L + 4 * (i + 1) by omega]
  congr 2
  funext q
  unfold fedF
  by_cases g : L + 4 * i ≤ q ∧ q < L + 4 * (i + 1)
  · rw [if_pos g, if_pos (by omega), show (q - L) / 4 = i by omega, hw, show (q - L) % 4 = q - (L + 4 * i) by omega]
  · rw [if_neg g]
    by_cases g2 : L ≤ q ∧ q < L + 4 * i
    · rw [if_pos g2, if_pos (by omega)]
    · rw [if_neg g2, if_neg (by omega)]
