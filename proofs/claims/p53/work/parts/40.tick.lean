/-! a tick of the reference -/
def SetI (P : Pm) (tu ro : Nat) : Prop := P.2.2.1 0 = nI tu ∧ P.2.2.1 1 = nI ro ∧ (1 ≤ tu ∧ tu < 2 ^ 31) ∧ (1 ≤ ro ∧ ro < 2 ^ 31)
def WkR (P : Pm) (n m n' m' : Nat) (r r' : Nat → Int32) : Prop := (r 8 = (-1 : Int32) ∧ r' = r ∧ n' = n ∧ m' = m) ∨ (∃ i a k l, r 8 ≠ (-1 : Int32) ∧ i < n ∧ srch (fun j => decide (rq r j 0 = r 8)) n = i ∧ rq r i 1 = nI a ∧ a < P.2.1 ∧ rq r i 2 = nI k ∧ k < P.1 ∧ rq r i 4 = nI l ∧ (1 ≤ l ∧ l ≤ 20) ∧ ((l = 1 ∧ r' = ansS (upd r (118 + 6 * i + 4) (nI 0)) i a k m n ∧ n' = n - 1 ∧ m' = m + 1) ∨ (2 ≤ l ∧ r' = upd r (118 + 6 * i + 4) (nI (l - 1)) ∧ n' = n ∧ m' = m)))
theorem WkR.gr {P : Pm} {n m n' m' t s : Nat} {r r' : Nat → Int32} (hC : P.1 ≤ 5) (hA : P.2.1 ≤ 8) (h : GR P r t n m s) (hw : WkR P n m n' m' r r') : GR P r' t n' m' s := by
  rcases hw with ⟨_, e, e1, e2⟩ | ⟨i, a, k, l, _, hi, hs, ea, ha, ek, hk, el, hl, ⟨_, e, e1, e2⟩ | ⟨hl2, e, e1, e2⟩⟩
  · rw [e, e1, e2]; exact h
  · rw [e, e1, e2]; exact GR_ans hC hA h hi ea ha ek hk
  · rw [e, e1, e2]; exact GR_left hC hA h hi (by omega)
/-- taking, then working -/
def TwR (P : Pm) (n m n' m' : Nat) (r r' : Nat → Int32) : Prop := ∃ q, ((r 8 = (-1 : Int32) ∧ q = takS r n P.1) ∨ (r 8 ≠ (-1 : Int32) ∧ q = r)) ∧ WkR P n m n' m' q r'
def PsR (P : Pm) (t tu : Nat) (r r' : Nat → Int32) : Prop := (0 < t ∧ t % tu = 0 ∧ ∃ a, a < P.2.1 ∧ r 2 = nI a ∧ r' = pasS P r a) ∨ (¬ (0 < t ∧ t % tu = 0) ∧ r' = r)
theorem nz_nI {a : Nat} (h : 0 < a) (h2 : a < 2 ^ 31) : nz (nI a) = true := by
  unfold nz
  rw [decide_eq_true_eq]
  exact nI_ne0 (by omega) (by omega)
def VtR (P : Pm) (lo : Int32) (t ro : Nat) (r r' : Nat → Int32) : Prop := (t % ro = 0 ∧ ∃ f, OutOK P r lo (r 1) f ∧ r' = ordS P r f) ∨ (t % ro ≠ 0 ∧ r' = r)
/-- a whole tick, by rows -/
def TkR (P : Pm) (lo : Int32) (t tu ro n m n' m' : Nat) (r r' : Nat → Int32) : Prop := ∃ q1 q2 q3, VtR P lo t ro r q1 ∧ PsR P t tu q1 q2 ∧ TwR P n m n' m' q2 q3 ∧ r' = upd q3 0 (nI (t + 1))
