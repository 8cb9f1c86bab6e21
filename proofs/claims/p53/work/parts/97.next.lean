/-! the reference's next token -/
def FrT (W Z : Sm) : Prop := Z.2 = W.2 ∧ (∀ k i, k ≠ 48 → gI Z.1 k i = gI W.1 k i ∧ gJ Z.1 k i = gJ W.1 k i) ∧ ∀ x, ¬ (25 ≤ x ∧ x ≤ 30) → gI Z.1 48 0 x = gI W.1 48 0 x
theorem FrT.rf {W : Sm} : FrT W W := ⟨rfl, fun _ _ _ => ⟨rfl, rfl⟩, fun _ _ => rfl⟩
theorem FrT.tr {W X Z : Sm} (h : FrT W X) (h2 : FrT X Z) : FrT W Z := ⟨h2.1.trans h.1, fun k i hk => ⟨(h2.2.1 k i hk).1.trans (h.2.1 k i hk).1, (h2.2.1 k i hk).2.trans (h.2.1 k i hk).2⟩, fun x hx => (h2.2.2 x hx).trans (h.2.2 x hx)⟩
theorem FrT.sI {W : Sm} {x : Nat} {v : Int32} (hx : 25 ≤ x ∧ x ≤ 30) : FrT W (sI W 48 0 x v) := ⟨rfl, fun k i hk => ⟨by rw [gI_sIk hk], rfl⟩, fun y hy => by rw [gI_sIv, upd_ne (fun q => hy (by rw [q]; exact hx))]⟩
theorem FrT.sJ {W : Sm} {x : Nat} {v : Int64} : FrT W (sJ W 48 0 x v) := ⟨rfl, fun k i hk => ⟨rfl, by
  funext j
  rw [gJ_sJ, if_neg (fun q => hk q.1)]⟩, fun y hy => rfl⟩
theorem FrT.tx {W Z : Sm} {L : Nat} {B : Nat → Nat} (h : FrT W Z) (hT : TxM W L B) : TxM Z L B := ⟨hT.1, (h.2.2 24 (by omega)).trans hT.2.1, fun j hj => by rw [(h.2.1 60 0 (by omega)).1]; exact hT.2.2 j hj⟩
theorem rng {a b n : Nat} (ha : a < 2 ^ 31) (hb : b < 2 ^ 31) (hn : n < 2 ^ 31) : decide ((nI a).toInt64 ≤ (nI n).toInt64 ∧ (nI n).toInt64 ≤ (nI b).toInt64) = decide (a ≤ n ∧ n ≤ b) := by
  simp only [i64_le, Int32.le_iff_toInt_le]
  rw [nI_toInt ha, nI_toInt hb, nI_toInt hn]
  congr 1
  apply propext
  omega
theorem rng_m {a b : Nat} (ha : a < 2 ^ 31) : decide ((nI a).toInt64 ≤ (-1 : Int32).toInt64 ∧ (-1 : Int32).toInt64 ≤ (nI b).toInt64) = false := by
  rw [decide_eq_false_iff_not]
  simp only [i64_le, Int32.le_iff_toInt_le]
  rw [nI_toInt ha, show (-1 : Int32).toInt = -1 from rfl]
  omega
def dgV (B : Nat → Nat) (s : Nat) : Nat → Nat
  | 0 => 0
  | j + 1 => 10 * dgV B s j + (B (s + j) - 48)
theorem dgV_lt {B : Nat → Nat} {s : Nat} : ∀ j, (∀ i, i < j → dgA (B (s + i)) = true) → dgV B s j < 10 ^ j := by
  intro j
  induction j with
  | zero => intro _; exact Nat.one_pos
  | succ j ih =>
    intro h
    have h1 := ih (fun i hi => h i (by omega))
    have h2 := of_decide_eq_true (h j (by omega))
    show 10 * dgV B s j + (B (s + j) - 48) < 10 ^ (j + 1)
    rw [Nat.pow_succ]
    omega
def krS (L : Nat) (B : Nat → Nat) (s : Nat) : Nat := if kdS L B s = 2 then (if edS L B s - s ≤ 3 then 2 else 4) else kdS L B s
