/-! forecasts: ticks until something is so -/
def Chn (P : Pm) (tu ro t s j : Nat) (R : Nat → Nat → Int32) (N M : Nat → Nat) : Prop := (∀ i, i ≤ j → GR P (R i) (t + i) (N i) (M i) s) ∧ ∀ i, i < j → TkR P (-1 : Int32) (t + i) tu ro (N i) (M i) (N (i + 1)) (M (i + 1)) (R i) (R (i + 1))
theorem Chn.z {P : Pm} {tu ro t s n m : Nat} {r : Nat → Int32} (h : GR P r t n m s) : Chn P tu ro t s 0 (fun _ => r) (fun _ => n) (fun _ => m) := ⟨fun i hi => by
  obtain rfl : i = 0 := by omega
  exact h, fun i hi => by omega⟩
theorem Chn.snoc {P : Pm} {tu ro t s j n2 m2 : Nat} {R : Nat → Nat → Int32} {N M : Nat → Nat} {r2 : Nat → Int32} (h : Chn P tu ro t s j R N M) (hG : GR P r2 (t + (j + 1)) n2 m2 s) (hk : TkR P (-1 : Int32) (t + j) tu ro (N j) (M j) n2 m2 (R j) r2) : Chn P tu ro t s (j + 1) (fun i => if i ≤ j then R i else r2) (fun i => if i ≤ j then N i else n2) (fun i => if i ≤ j then M i else m2) := by
  obtain ⟨h1, h2⟩ := h
  refine ⟨fun i hi => ?_, fun i hi => ?_⟩
  · show GR P (if i ≤ j then R i else r2) (t + i) (if i ≤ j then N i else n2) (if i ≤ j then M i else m2) s
    by_cases c : i ≤ j
    · rw [if_pos c, if_pos c, if_pos c]; exact h1 i c
    · rw [if_neg c, if_neg c, if_neg c, show i = j + 1 by omega]; exact hG
  · show TkR P (-1 : Int32) (t + i) tu ro (if i ≤ j then N i else n2) (if i ≤ j then M i else m2) (if i + 1 ≤ j then N (i + 1) else n2) (if i + 1 ≤ j then M (i + 1) else m2) (if i ≤ j then R i else r2) (if i + 1 ≤ j then R (i + 1) else r2)
    rw [if_pos (show i ≤ j by omega), if_pos (show i ≤ j by omega), if_pos (show i ≤ j by omega)]
    by_cases c : i + 1 ≤ j
    · rw [if_pos c, if_pos c, if_pos c]; exact h2 i (by omega)
    · rw [if_neg c, if_neg c, if_neg c, show i = j by omega]; exact hk
/-- what is told of the road: it stops at j -/
def Unt (P : Pm) (tu ro t s n m lim : Nat) (r : Nat → Int32) (go : (Nat → Int32) → Nat → Bool) (j : Nat) (R : Nat → Nat → Int32) (N M : Nat → Nat) : Prop := (R 0 = r ∧ N 0 = n ∧ M 0 = m) ∧ Chn P tu ro t s j R N M ∧ j ≤ lim ∧ (∀ i, i < j → go (R i) (N i) = true) ∧ (j < lim → go (R j) (N j) = false)
/-- one tick of the class along the road -/
theorem c_step {W : Sm} {P : Pm} {tu ro t s j i : Nat} {R : Nat → Nat → Int32} {N M : Nat → Nat} (h3 : 0 < P.1 ∧ P.1 ≤ 5 ∧ 0 < P.2.1 ∧ P.2.1 ≤ 8) (hW : WI P) (hS : SetI P tu ro) (hs : s ≤ 1000) (ht : t + j ≤ 1000000) (hc : Chn P tu ro t s j R N M) (hi : i < j) (hR : CR W 1 P (R i) (N i) (M i)) : ∃ Z, fn_86 1 W = some ((), Z) ∧ Fr (SS 1) W Z ∧ CR Z 1 P (R (i + 1)) (N (i + 1)) (M (i + 1)) := by
  have hG := hc.1 i (by omega)
  have hm : M i + 1 ≤ 1001 := by have := hG.2.1; omega
  have hb : (M i + 1) * (t + i) ≤ 1001 * 1000000 := Nat.mul_le_mul hm (by omega)
  exact c_86 h3 hW hS hG (by omega) (by omega) hR (hc.2 i hi)
/-! emptyIn -/
def goE (_r : Nat → Int32) (n : Nat) : Bool := decide (0 < n)
/-! silentIn -/
def goS (P : Pm) (a : Nat) (r : Nat → Int32) (_n : Nat) : Bool := decide (r (36 + a) < P.2.2.1 4)
/-! answeredIn -/
def goA (x : Int32) (r : Nat → Int32) (n : Nat) : Bool := !decide (sres (fun j => decide (rq r j 0 = x)) n = (-1 : Int32))
theorem goA_t {x : Int32} {r : Nat → Int32} {n : Nat} (h : goA x r n = true) : ¬ sres (fun j => decide (rq r j 0 = x)) n = (-1 : Int32) := by
  unfold goA at h
  rw [Bool.not_eq_true'] at h
  exact of_decide_eq_false h
theorem goA_f {x : Int32} {r : Nat → Int32} {n : Nat} (h : goA x r n = false) : sres (fun j => decide (rq r j 0 = x)) n = (-1 : Int32) := by
  unfold goA at h
  rw [Bool.not_eq_false'] at h
  exact of_decide_eq_true h
