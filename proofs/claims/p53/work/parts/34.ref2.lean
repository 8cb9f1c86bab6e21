/-! votes, by a row -/
abbrev Pm : Type := Nat × Nat × (Nat → Int32) × (Nat → Int32)
/-- the vote of an asker counts; lo is left out -/
def hdS (P : Pm) (r : Nat → Int32) (lo : Int32) (a : Nat) : Bool := !decide (nI a = lo) && decide (r (36 + a) < P.2.2.1 4)
def bal (r : Nat → Int32) (a p : Nat) : Int32 := r (78 + 5 * a + p)
def plc (P : Pm) (r : Nat → Int32) (a k : Nat) : Nat := srch (fun p => decide (bal r a p = nI k)) P.1
def ptsS (P : Pm) (r : Nat → Int32) (lo : Int32) (k : Nat) : Int32 := sumN (hdS P r lo) (fun a => P.2.2.2 a * (nI (P.1 - 1) - nI (plc P r a k))) P.2.1
def fstS (P : Pm) (r : Nat → Int32) (lo : Int32) (k p : Nat) : Int32 := sumN (fun a => hdS P r lo a && decide (bal r a p = nI k)) P.2.2.2 P.2.1
def leadS (P : Pm) (r : Nat → Int32) (lo : Int32) (k o : Nat) : Int32 := sumN (hdS P r lo) (fun a => if plc P r a k < plc P r a o then P.2.2.2 a else -(P.2.2.2 a)) P.2.1
def beatS (P : Pm) (r : Nat → Int32) (lo : Int32) (k o : Nat) : Bool := !decide (k = o) && decide (nI 0 < leadS P r lo k o)
def winsS (P : Pm) (r : Nat → Int32) (lo : Int32) (k : Nat) : Nat := cntN (beatS P r lo k) P.1
def anyS (P : Pm) (r : Nat → Int32) (lo : Int32) : Bool := !Nat.ble P.2.1 (srch (hdS P r lo) P.2.1)
def lexS (P : Pm) (r : Nat → Int32) (lo : Int32) (k o : Nat) : Nat := srch (fun p => !decide (fstS P r lo k p = fstS P r lo o p)) P.1
/-- a class comes ahead of another one by a tally -/
def betS (P : Pm) (r : Nat → Int32) (lo t : Int32) (k o : Nat) : Bool :=
  if t = nI 1 then cond (Nat.ble P.1 (lexS P r lo k o)) (decide (k < o)) (decide (fstS P r lo o (lexS P r lo k o) < fstS P r lo k (lexS P r lo k o)))
  else (if t = nI 2 ∧ ¬ winsS P r lo k = winsS P r lo o then decide (winsS P r lo o < winsS P r lo k)
  else (if ptsS P r lo k = ptsS P r lo o then decide (k < o) else decide (ptsS P r lo o < ptsS P r lo k)))
/-- the model holds the setup -/
def MP (Y : Sm) (P : Pm) : Prop := gI Y.1 48 0 1 = nI P.1 ∧ gI Y.1 48 0 2 = nI P.2.1 ∧ (0 < P.1 ∧ P.1 ≤ 5 ∧ 0 < P.2.1 ∧ P.2.1 ≤ 8) ∧ (∀ j, j < 5 → gI Y.1 48 0 (3 + j) = P.2.2.1 j) ∧ (∀ a, a < P.2.1 → gI Y.1 49 0 a = P.2.2.2 a)
/-- each ballot is an order of the classes -/
def BalI (r : Nat → Int32) (C A : Nat) : Prop := ∀ a, a < A → (∀ k, k < C → ∃ p, p < C ∧ bal r a p = nI k) ∧ (∀ p, p < C → ∃ k, k < C ∧ bal r a p = nI k)
theorem plc_lt {P : Pm} {r : Nat → Int32} (hB : BalI r P.1 P.2.1) {a k : Nat} (ha : a < P.2.1) (hk : k < P.1) : plc P r a k < P.1 := by
  obtain ⟨p, hp, e⟩ := (hB a ha).1 k hk
  exact srch_lt hp (decide_eq_true e)
theorem winsS_le (P : Pm) (r : Nat → Int32) (lo : Int32) (k : Nat) : winsS P r lo k ≤ P.1 := cntN_le _ _

