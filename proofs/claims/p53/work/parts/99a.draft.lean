/-! the draft on both sides -/
def stL (j : Nat) : Nat := ([1, 1, 0, 0, 1] : List Nat).getD j 0
def stH (j : Nat) : Nat := ([20, 50, 99, 99, 9] : List Nat).getD j 0
def DrS (X W : Sm) (d : Nat) : Prop := ∀ j, j < 5 → ∃ x, stL j ≤ x ∧ x ≤ stH j ∧ gI X.1 11 d j = nI x ∧ gI W.1 61 0 j = nI x
def DrQ (X W : Sm) (d C A n : Nat) : Prop := (gI X.1 12 d 1 = nI n ∧ gI X.1 12 d 2 = (-1 : Int32) ∧ gI W.1 53 0 9 = nI n ∧ gI W.1 53 0 6 = nI n) ∧ ∀ j, j < n → ∃ a k l, a < A ∧ k < C ∧ 1 ≤ l ∧ l ≤ 20 ∧ (gI X.1 19 d j = nI j ∧ gI X.1 14 d j = nI a ∧ gI X.1 15 d j = nI k ∧ gI X.1 16 d j = nI l ∧ gI X.1 17 d j = nI l ∧ gI X.1 18 d j = nI 0) ∧ gI W.1 53 0 (118 + 6 * j) = nI j ∧ gI W.1 53 0 (118 + 6 * j + 1) = nI a ∧ gI W.1 53 0 (118 + 6 * j + 2) = nI k ∧ gI W.1 53 0 (118 + 6 * j + 3) = nI l ∧ gI W.1 53 0 (118 + 6 * j + 4) = nI l
def DrZ (W : Sm) (C : Nat) : Prop := (∀ q, q ∈ [0, 2, 3, 4, 5, 7] → gI W.1 53 0 q = nI 0) ∧ gI W.1 53 0 8 = (-1 : Int32) ∧ (∀ q, 28 ≤ q → q < 118 → gI W.1 53 0 q = nI 0) ∧ (∀ j, j < 40 → gI W.1 53 0 (118 + 6 * j + 5) = nI 0) ∧ ∀ k, C ≤ k → k < 5 → gI W.1 53 0 (15 + k) = nI 0
def DrT (X W : Sm) (d : Nat) : Prop := ∃ x, x < 3 ∧ gI X.1 5 d 7 = nI x ∧ gI W.1 53 0 1 = nI x
def Mk (X W : Sm) : Prop := ∃ m, m < 64 ∧ gI X.1 3 0 2 = nI m ∧ gI W.1 48 0 35 = nI ((m % 32) * 2 + m / 32)
def SmX (d : Nat) (X X' : Sm) : Prop := (∀ k, k ∈ [5, 6, 7, 8, 9, 10, 11, 12, 14, 15, 16, 17, 18, 19] → gI X'.1 k d = gI X.1 k d ∧ gJ X'.1 k d = gJ X.1 k d) ∧ gI X'.1 3 0 2 = gI X.1 3 0 2
def SmW (W W' : Sm) : Prop := (∀ k, k ∈ [53, 61, 62, 63, 64] → gI W'.1 k 0 = gI W.1 k 0 ∧ gJ W'.1 k 0 = gJ W.1 k 0) ∧ ∀ x, x ∈ [33, 34, 35] → gI W'.1 48 0 x = gI W.1 48 0 x
theorem SmX.rf {d : Nat} {X : Sm} : SmX d X X := ⟨fun _ _ => ⟨rfl, rfl⟩, rfl⟩
theorem SmX.tr {d : Nat} {X Y Z : Sm} (h : SmX d X Y) (h2 : SmX d Y Z) : SmX d X Z := ⟨fun k hk => ⟨(h2.1 k hk).1.trans (h.1 k hk).1, (h2.1 k hk).2.trans (h.1 k hk).2⟩, h2.2.trans h.2⟩
theorem SmW.rf {W : Sm} : SmW W W := ⟨fun _ _ => ⟨rfl, rfl⟩, fun _ _ => rfl⟩
theorem SmW.tr {X Y Z : Sm} (h : SmW X Y) (h2 : SmW Y Z) : SmW X Z := ⟨fun k hk => ⟨(h2.1 k hk).1.trans (h.1 k hk).1, (h2.1 k hk).2.trans (h.1 k hk).2⟩, fun x hx => (h2.2 x hx).trans (h.2 x hx)⟩
theorem SmX.k4 {d : Nat} {X Z : Sm} (h : Fr (KS [4]) X Z) : SmX d X Z := ⟨fun k hk => h.2 k d (fun q => by
  unfold KS at q
  simp only [List.mem_cons, List.mem_nil_iff, or_false] at *
  omega), by rw [h.gI (by unfold KS; decide)]⟩
theorem SmW.t {W Z : Sm} (h : FrT W Z) : SmW W Z := ⟨fun k hk => h.2.1 k 0 (fun q => by rw [q] at hk; exact absurd hk (by decide)), fun x hx => h.2.2 x (by
  simp only [List.mem_cons, List.mem_nil_iff, or_false] at *
  omega)⟩
def NE (X W : Sm) : Prop := gI X.1 3 0 3 = nI 0 ∧ gI X.1 3 0 4 = (-1 : Int32) ∧ gI W.1 48 0 31 = nI 0 ∧ gI W.1 48 0 32 = (-1 : Int32)
theorem NE.nx {X W Z Z2 : Sm} (h : NE X W) (f : Fr (KS [4]) X Z) (f2 : FrT W Z2) : NE Z Z2 := by
  unfold NE
  rw [f.gI (by unfold KS; decide), f2.2.2 31 (by omega), f2.2.2 32 (by omega)]
  exact h
/-- what a reader leaves: it went on, or both found the same error -/
def ErB (Z Z2 : Sm) : Prop := ∃ er p, 1 ≤ er ∧ er ≤ 5 ∧ gI Z.1 3 0 3 = nI er ∧ gI Z.1 3 0 4 = p ∧ gI Z2.1 48 0 31 = nI er ∧ gI Z2.1 48 0 32 = p
theorem Fr.d4 {d : Nat} {X Z : Sm} (h : Fr (KS [4]) X Z) : Fr (SD d) X Z := h.up (fun k i hk => Or.inl (by
  unfold KS at hk
  simp only [List.mem_cons, List.mem_nil_iff, or_false] at *
  omega))
theorem nxt_gt {L s : Nat} {B : Nat → Nat} (h : s < L) : s < nxt L B s := Nat.lt_of_lt_of_le (edS_gt h) rn_ge
theorem wb_lt {L s j : Nat} {B : Nat → Nat} (h : wb L B s j = true) : s < L := by
  unfold wb at h
  rw [Bool.and_eq_true] at h
  exact (kd1 (Nat.eq_of_beq_eq_true h.1)).1
theorem upd_self {f : Nat → Int32} {x : Nat} {v : Int32} (h : f x = v) : upd f x v = f := by
  funext q
  by_cases c : q = x
  · rw [c, upd_at, h]
  · rw [upd_ne c]
