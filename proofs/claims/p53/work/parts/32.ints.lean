/-! ints and branches -/
theorem cnd_t {α : Type} {a b : α} : cond true a b = a := by
  have h : ∀ c : Bool, c = true → cond c a b = a := fun c e => by rw [e]; rfl
  exact h true rfl
theorem cnd_f {α : Type} {a b : α} : cond false a b = b := by
  have h : ∀ c : Bool, c = false → cond c a b = b := fun c e => by rw [e]; rfl
  exact h false rfl
theorem exd_l {σ ρ : Type} {s : σ} {K : σ → Option ρ} : exd (some (.inl s)) K = K s := by
  have h : ∀ m, m = some (.inl s) → exd m K = K s := fun m e => by rw [e]; rfl
  exact h _ rfl
theorem exd_r {σ ρ : Type} {r : ρ} {K : σ → Option ρ} : exd (some (.inr r)) K = some r := by
  have h : ∀ m, m = some (.inr r) → exd m K = some r := fun m e => by rw [e]; rfl
  exact h _ rfl
theorem ck_in {ρ : Type} {j n : Nat} {k : Option ρ} (h : j < n) (hn : n < 2 ^ 31) : ck (inb (nI j) n) k = k := ck_t (inb_nI h hn)
theorem iteI_le_t {ρ : Type} {a b : Nat} {x y : ρ} (h : a ≤ b) (hb : b < 2 ^ 31) : (if nI a ≤ nI b then x else y) = x := if_pos (nI_le h hb)
theorem iteI_le_f {ρ : Type} {a b : Nat} {x y : ρ} (h : b < a) (hb : a < 2 ^ 31) : (if nI a ≤ nI b then x else y) = y := if_neg (nI_ge h hb)
theorem iteI_lt_t {ρ : Type} {a b : Nat} {x y : ρ} (h : a < b) (hb : b < 2 ^ 31) : (if nI a < nI b then x else y) = x := if_pos (nI_lt h hb)
theorem iteI_lt_f {ρ : Type} {a b : Nat} {x y : ρ} (h : b ≤ a) (hb : a < 2 ^ 31) : (if nI a < nI b then x else y) = y := if_neg (nI_nlt h hb)
theorem iteI_eq_t {ρ : Type} {a b : Nat} {x y : ρ} (h : a = b) : (if nI a = nI b then x else y) = x := if_pos (by rw [h])
theorem iteI_eq_f {ρ : Type} {a b : Nat} {x y : ρ} (h : a ≠ b) (ha : a < 2 ^ 31) (hb : b < 2 ^ 31) : (if nI a = nI b then x else y) = y := if_neg (fun e => h ((nI_eq ha hb).mp e))
theorem ite_m1_f {ρ : Type} {a : Nat} {x y : ρ} (ha : a < 2 ^ 31) : (if nI a = (-1 : Int32) then x else y) = y := if_neg (nI_ne_m1 ha)
theorem ite_m1_t {ρ : Type} {x y : ρ} : (if (-1 : Int32) = (-1 : Int32) then x else y) = x := if_pos rfl
theorem ite_s {ρ : Type} {c : Prop} [Decidable c] {a b : ρ} {Y : Sm} : (if c then some (a, Y) else some (b, Y)) = some (if c then a else b, Y) := by
  by_cases h : c <;> simp [h]
/-- truth as an int -/
def bI (b : Bool) : Int32 := cond b (nI 1) (nI 0)
theorem bI_t : bI true = nI 1 := rfl
theorem bI_f : bI false = nI 0 := rfl
theorem bI_bz (b : Bool) : bz (bI b) = true := by cases b <;> decide
theorem bI_0 {ρ : Type} {b : Bool} {x y : ρ} : (if bI b = nI 0 then x else y) = cond b y x := by cases b <;> rfl
theorem bI_1 {ρ : Type} {b : Bool} {x y : ρ} : (if bI b = nI 1 then x else y) = cond b x y := by cases b <;> rfl
theorem ck_bz {ρ : Type} {b : Bool} {k : Option ρ} : ck (bz (bI b)) k = k := ck_t (bI_bz b)
theorem bI_eq {a b : Bool} : bI a = bI b ↔ a = b := by cases a <;> cases b <;> decide
theorem bI_ite {c : Prop} [Decidable c] : (if c then nI 1 else nI 0) = bI (decide c) := by by_cases h : c <;> simp [h, bI]
theorem bI_iteN {c : Prop} [Decidable c] : (if c then nI 0 else nI 1) = bI (!decide c) := by by_cases h : c <;> simp [h, bI]
theorem nI_of_inb {x : Int32} {n : Nat} (h : inb x n = true) (hn : n < 2 ^ 31) : ∃ j, j < n ∧ x = nI j := inb_of h hn
theorem inb_iff {x : Int32} {n : Nat} : inb x n = true ↔ 0 ≤ x.toInt ∧ x.toInt < (n : Int) := by
  unfold inb
  simp
theorem i64_le {a b : Int32} : a.toInt64 ≤ b.toInt64 ↔ a ≤ b := by
  rw [Int64.le_iff_toInt_le, Int32.le_iff_toInt_le, Int32.toInt_toInt64, Int32.toInt_toInt64]
theorem lg_lt0 (x y : Int64) : lg_cmp x y < nI 0 ↔ x < y := by
  show lg_cmp x y < 0 ↔ x < y
  have h := lg_cmp_ge x y
  constructor
  · intro q
    rcases Int64.lt_or_le x y with r | r
    · exact r
    · exact absurd (h.mpr r) (Int32.not_le.mpr q)
  · intro q
    rcases Int32.lt_or_le (lg_cmp x y) 0 with r | r
    · exact r
    · exact absurd (h.mp r) (Int64.not_le.mpr q)
theorem lg_gt0 (x y : Int64) : nI 0 < lg_cmp x y ↔ y < x := by
  show 0 < lg_cmp x y ↔ y < x
  unfold lg_cmp
  by_cases h1 : x > y
  · rw [if_pos h1]; exact ⟨fun _ => h1, fun _ => by decide⟩
  · rw [if_neg h1]
    by_cases h2 : x = y
    · rw [if_pos h2]
      exact ⟨fun q => absurd q (by decide), fun q => absurd q h1⟩
    · rw [if_neg h2]
      exact ⟨fun q => absurd q (by decide), fun q => absurd q h1⟩
theorem ble_f {n j : Nat} (h : j < n) : Nat.ble n j = false := by
  cases hb : Nat.ble n j with
  | false => rfl
  | true => have := Nat.le_of_ble_eq_true hb; omega
theorem ble_t {n j : Nat} (h : n ≤ j) : Nat.ble n j = true := Nat.ble_eq_true_of_le h
theorem lp_find {ρ : Type} {F : Int32 × Sm → Option ((Int32 × Sm) ⊕ ρ)} {Y : Sm} (p : Nat → Bool) (n : Nat) (g : Nat → ρ) (hn : n < 1000000) (hf : srch p n < n) (h1 : ∀ j, j < n → p j = false → F (nI j, Y) = some (.inl (nI (j + 1), Y))) (h2 : ∀ j, j < n → p j = true → F (nI j, Y) = some (.inr (g j))) : lp F FU (nI 0, Y) = some (g (srch p n)) :=
  lp_run (fun j => (nI j, Y)) (srch p n) (FU_lt (by omega)) (fun j hj => h1 j (by omega) (srch_no hj)) (h2 _ hf (srch_yes hf)) rfl
theorem srch_lt {p : Nat → Bool} {n k : Nat} (hk : k < n) (h : p k = true) : srch p n < n := by
  rcases Nat.lt_or_ge (srch p n) n with q | q
  · exact q
  · have := srch_no (p := p) (n := n) (j := k) (by omega)
    rw [this] at h
    cases h
/-- a search's result -/
def sres (p : Nat → Bool) (n : Nat) : Int32 := cond (Nat.ble n (srch p n)) (-1 : Int32) (nI (srch p n))
theorem sres_f {p : Nat → Bool} {n : Nat} (h : srch p n < n) : sres p n = nI (srch p n) := by unfold sres; rw [ble_f h]; rfl
theorem sres_n {p : Nat → Bool} {n : Nat} (h : n ≤ srch p n) : sres p n = (-1 : Int32) := by unfold sres; rw [ble_t h]; rfl
theorem lp_sres {Y : Sm} {F : Int32 × Sm → Option ((Int32 × Sm) ⊕ (Int32 × Sm))} (p : Nat → Bool) (n : Nat) (hn : n < 1000000) (h1 : ∀ j, j < n → p j = false → F (nI j, Y) = some (.inl (nI (j + 1), Y))) (h2 : ∀ j, j < n → p j = true → F (nI j, Y) = some (.inr (nI j, Y))) (h3 : F (nI n, Y) = some (.inr ((-1 : Int32), Y))) : lp F FU (nI 0, Y) = some (sres p n, Y) := by
  refine (lp_srch p n (fun j => (cond (Nat.ble n j) (-1 : Int32) (nI j), Y)) hn h1 (fun j hj hp => ?_) ?_).trans rfl
  · rw [ble_f hj]; exact h2 j hj hp
  · rw [ble_t (Nat.le_refl n)]; exact h3
/-- sums and counts as loops tell them -/
theorem lp_sum {Y : Sm} {F : Int32 × Int32 × Sm → Option ((Int32 × Int32 × Sm) ⊕ (Int32 × Sm))} (p : Nat → Bool) (g : Nat → Int32) (n : Nat) (hn : n < 1000000) (h1 : ∀ j acc, j < n → F (acc, nI j, Y) = some (.inl (cond (p j) (acc + g j) acc, nI (j + 1), Y))) (h3 : ∀ acc, F (acc, nI n, Y) = some (.inr (acc, Y))) : lp F FU (nI 0, nI 0, Y) = some (sumN p g n, Y) := by
  refine lp_acc (fun j => sumN p g j) n hn (fun j hj => ?_) (h3 _)
  rw [h1 j _ hj]
  rfl
theorem lp_cnt {Y : Sm} {F : Int32 × Int32 × Sm → Option ((Int32 × Int32 × Sm) ⊕ (Int32 × Sm))} (p : Nat → Bool) (n : Nat) (hn : n < 1000000) (h1 : ∀ j c, j < n → F (nI c, nI j, Y) = some (.inl (nI (cond (p j) (c + 1) c), nI (j + 1), Y))) (h3 : ∀ c, F (nI c, nI n, Y) = some (.inr (nI c, Y))) : lp F FU (nI 0, nI 0, Y) = some (nI (cntN p n), Y) := by
  refine lp_acc (fun j => nI (cntN p j)) n hn (fun j hj => ?_) (h3 _)
  rw [h1 j _ hj]
  rfl
theorem dnle {a b : Int32} : (!decide (a ≤ b)) = decide (b < a) := by
  rw [← decide_not]
  exact decide_eq_decide.mpr Int32.not_le
theorem dnlt {a b : Int32} : (!decide (a < b)) = decide (b ≤ a) := by
  rw [← decide_not]
  exact decide_eq_decide.mpr Int32.not_lt

