/-! the best veto, the best tally -/
def Vl (P : Pm) (tu ro t s k : Nat) (A : Int32) (r1 : Nat → Int32) (n m x : Nat) : Prop := (∃ r' n' m', TkN P tu ro t s k n m r1 n' m' r') ∧ ∀ r' n' m', TkN P tu ro t s k n m r1 n' m' r' → ansO r' A = nI x
theorem c_vl {Z : Sm} {P : Pm} {r1 : Nat → Int32} {tu ro t s k n m x : Nat} {A : Int32} (h3 : 0 < P.1 ∧ P.1 ≤ 5 ∧ 0 < P.2.1 ∧ P.2.1 ≤ 8) (hW : WI P) (hS : SetI P tu ro) (hs : s ≤ 1000) (ht : t + k ≤ 1000000) (hk : k < 1000000) (hA : AsK A P.2.1) (hR : CR Z 1 P r1 n m) (hV : Vl P tu ro t s k A r1 n m x) : ∃ Z2, fn_85 1 (nI k) Z = some ((), Z2) ∧ QC Z Z2 ∧ fn_75 1 A Z2 = some (nI x, Z2) := by
  obtain ⟨⟨r', n', m', hT⟩, hV⟩ := hV
  obtain ⟨Z2, e, f, v, _⟩ := c_val h3 hW hS hs ht hk hA hR hT
  rw [hV r' n' m' hT] at v
  exact ⟨Z2, e, QC.s1 f, v⟩
/-- what lies behind the 718 places stays -/
theorem TkR.hi {P : Pm} {t tu ro n m n' m' : Nat} {lo : Int32} {r r' : Nat → Int32} (hd : P.1 ≤ 5 ∧ P.2.1 ≤ 8) (hn : n ≤ 40) (h : TkR P lo t tu ro n m n' m' r r') {q : Nat} (hq : 718 ≤ q) : r' q = r q := by
  obtain ⟨q1, q2, q3, hv, hp, ⟨q4, hq4, hw⟩, rfl⟩ := h
  have a1 : q1 q = r q := by
    rcases hv with ⟨_, f, _, rfl⟩ | ⟨_, rfl⟩
    · unfold ordS
      rw [if_neg (by omega), if_neg (by omega), if_neg (by omega)]
    · rfl
  have a2 : q2 q = r q := by
    rw [← a1]
    rcases hp with ⟨_, _, x, _, _, rfl⟩ | ⟨_, rfl⟩
    · unfold pasS
      rw [if_neg (by omega), if_neg (by omega), if_neg (fun z => by omega)]
    · rfl
  have a3 : q4 q = r q := by
    rw [← a2]
    rcases hq4 with ⟨_, rfl⟩ | ⟨_, rfl⟩
    · unfold takS
      cases Nat.ble P.1 (nxtN q2 n P.1) with
      | true => rfl
      | false => rw [cnd_f, upd_ne (by omega)]
    · rfl
  rw [upd_ne (by omega), ← a3]
  rcases hw with ⟨_, rfl, _, rfl⟩ | ⟨i, a, k, l, _, hi, _, ea, ha, ek, hk, _, _, ⟨_, rfl, _, rfl⟩ | ⟨_, rfl, _, rfl⟩⟩
  · rfl
  · have hm : m % 60 < 60 := Nat.mod_lt _ (by omega)
    unfold ansS remS
    rw [if_neg (by omega), upd_ne (by omega)]
    unfold an0S
    simp (disch := omega) only [upd_ne, upd_at, iteN_t, iteN_f, ↓reduceIte]
  · rw [upd_ne (by omega)]
theorem TkN.hi {P : Pm} {tu ro t s k n m n' m' : Nat} {r r' : Nat → Int32} (hd : P.1 ≤ 5 ∧ P.2.1 ≤ 8) (h : TkN P tu ro t s k n m r n' m' r') {q : Nat} (hq : 718 ≤ q) : r' q = r q := by
  obtain ⟨R, N, M, ⟨a1, a2, a3⟩, ⟨b1, b2, b3⟩, hc⟩ := h
  have key : ∀ j, j ≤ k → R j q = r q := fun j => by
    induction j with
    | zero => intro _; rw [a1]
    | succ j ih => intro hj; rw [(hc j (by omega)).2.hi hd (hc j (by omega)).1.2.1.1 hq, ih (by omega)]
  rw [← b1]
  exact key k (Nat.le_refl _)
def bvS (can : Nat → Bool) (xf : Nat → Nat) (v0 : Nat) : Nat → Nat × Int32
  | 0 => (v0, (-1 : Int32))
  | j + 1 => if can j = true ∧ (bvS can xf v0 j).1 < xf j then (xf j, nI j) else bvS can xf v0 j
theorem bvS_no {can : Nat → Bool} {xf : Nat → Nat} {v0 j : Nat} (h : ¬ (can j = true ∧ (bvS can xf v0 j).1 < xf j)) : bvS can xf v0 (j + 1) = bvS can xf v0 j := if_neg h
theorem bvS_yes {can : Nat → Bool} {xf : Nat → Nat} {v0 j : Nat} (h : can j = true ∧ (bvS can xf v0 j).1 < xf j) : bvS can xf v0 (j + 1) = (xf j, nI j) := if_pos h
theorem bvS_b {can : Nat → Bool} {xf : Nat → Nat} {v0 x0 C : Nat} (h0 : x0 ≤ v0 ∧ v0 ≤ 1000) (hx : ∀ j, j < C → can j = true → x0 ≤ xf j ∧ xf j ≤ 1000) : ∀ j, j ≤ C → x0 ≤ (bvS can xf v0 j).1 ∧ (bvS can xf v0 j).1 ≤ 1000 := by
  intro j
  induction j with
  | zero => intro _; exact h0
  | succ j ih =>
    intro hj
    have := ih (by omega)
    unfold bvS
    by_cases c : can j = true ∧ (bvS can xf v0 j).1 < xf j
    · rw [if_pos c]; exact hx j (by omega) c.1
    · rw [if_neg c]; exact this
theorem lt_sub {x y b : Nat} (hx : b ≤ x) (hy : b ≤ y) (hx2 : x ≤ 1000) (hy2 : y ≤ 1000) {ρ : Type} {u v : ρ} : (if nI (x - b) < nI (y - b) then u else v) = if x < y then u else v := by
  by_cases c : x < y
  · rw [if_pos c, iteI_lt_t (by omega) (by omega)]
  · rw [if_neg c, iteI_lt_f (by omega) (by omega)]
theorem m1_lt0 {x : Nat} (h : x < 2 ^ 31) : ¬ nI x < (-1 : Int32) := fun q => by
  have := Int32.lt_iff_toInt_lt.mp q
  rw [nI_toInt h] at this
  have e : (-1 : Int32).toInt = -1 := by decide
  omega
theorem m1_ltn {x : Nat} (h : x < 2 ^ 31) : (-1 : Int32) < nI x := Int32.lt_iff_toInt_lt.mpr (by
  rw [nI_toInt h]
  have e : (-1 : Int32).toInt = -1 := by decide
  omega)
/-! the greatest, the first of them -/
def mxN (xf : Nat → Nat) : Nat → Nat
  | 0 => xf 0
  | j + 1 => if mxN xf j < xf (j + 1) then xf (j + 1) else mxN xf j
def biN (xf : Nat → Nat) : Nat → Nat
  | 0 => 0
  | j + 1 => if mxN xf j < xf (j + 1) then j + 1 else biN xf j
theorem mxN_b {xf : Nat → Nat} {x0 C : Nat} (hx : ∀ j, j < C → x0 ≤ xf j ∧ xf j ≤ 1000) : ∀ j, j < C → x0 ≤ mxN xf j ∧ mxN xf j ≤ 1000 := by
  intro j
  induction j with
  | zero => intro h; exact hx 0 h
  | succ j ih =>
    intro hj
    have := ih (by omega)
    unfold mxN
    by_cases c : mxN xf j < xf (j + 1)
    · rw [if_pos c]; exact hx (j + 1) hj
    · rw [if_neg c]; exact this
/-- what the loops hold ahead of the step j: nothing, or the greatest of the first j -/
def mxI (xf : Nat → Nat) (b j : Nat) : Int32 := if j = 0 then (-1 : Int32) else nI (mxN xf (j - 1) - b)
def biI (z : Int32) (g : Nat → Int32) (xf : Nat → Nat) (j : Nat) : Int32 := if j = 0 then z else g (biN xf (j - 1))
theorem mx_step {ρ : Type} {xf : Nat → Nat} {b C j : Nat} (hx : ∀ j, j < C → b ≤ xf j ∧ xf j ≤ 1000) (hj : j < C) (z : Int32) (g : Nat → Int32) (K : Int32 → Int32 → ρ) : (if mxI xf b j < nI (xf j - b) then K (g j) (nI (xf j - b)) else K (biI z g xf j) (mxI xf b j)) = K (biI z g xf (j + 1)) (mxI xf b (j + 1)) := by
  have hxj := hx j hj
  rcases Nat.eq_zero_or_pos j with h0 | h0
  · subst h0
    unfold mxI biI
    rw [if_pos rfl, if_pos (m1_ltn (by omega)), if_neg (by omega), if_neg (by omega)]
    rfl
  · obtain ⟨i, rfl⟩ : ∃ i, j = i + 1 := ⟨j - 1, by omega⟩
    have hm := mxN_b hx i (by omega)
    have m1 : mxI xf b (i + 1) = nI (mxN xf i - b) := if_neg (by omega)
    have m2 : mxI xf b (i + 1 + 1) = nI (mxN xf (i + 1) - b) := if_neg (by omega)
    have b1 : biI z g xf (i + 1) = g (biN xf i) := if_neg (by omega)
    have b2 : biI z g xf (i + 1 + 1) = g (biN xf (i + 1)) := if_neg (by omega)
    rw [m1, m2, b1, b2, lt_sub hm.1 hxj.1 hm.2 hxj.2]
    show _ = K (g (if mxN xf i < xf (i + 1) then i + 1 else biN xf i)) (nI ((if mxN xf i < xf (i + 1) then xf (i + 1) else mxN xf i) - b))
    by_cases c : mxN xf i < xf (i + 1)
    · rw [if_pos c, if_pos c, if_pos c]
    · rw [if_neg c, if_neg c, if_neg c]
theorem ite_le_lt {ρ : Type} {a b : Int32} {u v : ρ} : (if a ≤ b then u else v) = if b < a then v else u := by
  by_cases c : b < a
  · rw [if_pos c, if_neg (Int32.not_le.mpr c)]
  · rw [if_neg c, if_pos (Int32.not_lt.mp c)]
