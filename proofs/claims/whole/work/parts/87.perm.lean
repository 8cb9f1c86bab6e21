/-! the orders of the classes, one behind the other -/
def codesL (C : Nat) : List Nat :=
  if C = 1 then [0] else if C = 2 then [1, 10] else if C = 3 then [12, 21, 102, 120, 201, 210] else if C = 4 then [123, 132, 213, 231, 312, 321, 1023, 1032, 1203, 1230, 1302, 1320, 2013, 2031, 2103, 2130, 2301, 2310, 3012, 3021, 3102, 3120, 3201, 3210] else if C = 5 then [1234, 1243, 1324, 1342, 1423, 1432, 2134, 2143, 2314, 2341, 2413, 2431, 3124, 3142, 3214, 3241, 3412, 3421, 4123, 4132, 4213, 4231, 4312, 4321, 10234, 10243, 10324, 10342, 10423, 10432, 12034, 12043, 12304, 12340, 12403, 12430, 13024, 13042, 13204, 13240, 13402, 13420, 14023, 14032, 14203, 14230, 14302, 14320, 20134, 20143, 20314, 20341, 20413, 20431, 21034, 21043, 21304, 21340, 21403, 21430, 23014, 23041, 23104, 23140, 23401, 23410, 24013, 24031, 24103, 24130, 24301, 24310, 30124, 30142, 30214, 30241, 30412, 30421, 31024, 31042, 31204, 31240, 31402, 31420, 32014, 32041, 32104, 32140, 32401, 32410, 34012, 34021, 34102, 34120, 34201, 34210, 40123, 40132, 40213, 40231, 40312, 40321, 41023, 41032, 41203, 41230, 41302, 41320, 42013, 42031, 42103, 42130, 42301, 42310, 43012, 43021, 43102, 43120, 43201, 43210] else []
def eC (C i : Nat) : Nat := (codesL C).getD i 0
def nC (C : Nat) : Nat := (codesL C).length
def pm (C i q : Nat) : Nat := eC C i / 10 ^ (C - 1 - q) % 10
def pvS (g : Nat → Nat) : Nat → Nat
  | 0 => 0
  | k + 1 => if g k ≤ g (k + 1) then k + 1 else pvS g k
def nxS (g : Nat → Nat) (p : Nat) : Nat → Nat
  | 0 => 0
  | k + 1 => if k + 1 ≤ p then k + 1 else if g p ≤ g (k + 1) then k + 1 else nxS g p k
def swN (g : Nat → Nat) (a b : Nat) : Nat → Nat := fun q => if q = b then g a else if q = a then g b else g q
def rvN : Nat → (Nat → Nat) → Nat → Nat → (Nat → Nat)
  | 0, g, _, _ => g
  | n + 1, g, l, r => if r ≤ l then g else rvN n (swN g l r) (l + 1) (r - 1)
def advN (C : Nat) (g : Nat → Nat) : Bool × (Nat → Nat) := if pvS g (C - 1) = 0 then (false, g) else (true, rvN C (swN g (pvS g (C - 1) - 1) (nxS g (pvS g (C - 1) - 1) (C - 1))) (pvS g (C - 1)) (C - 1))
theorem pm_lt : ∀ C, C < 6 → ∀ i, i < nC C → ∀ q, q < C → pm C i q < C := by decide +kernel
theorem pm_inj : ∀ C, C < 6 → ∀ i, i < nC C → ∀ q, q < C → ∀ p, p < C → pm C i q = pm C i p → q = p := by decide +kernel
theorem eC_up : ∀ C, C < 6 → ∀ i, i + 1 < nC C → eC C i < eC C (i + 1) := fun C hC i hi => (by decide +kernel : ∀ C, C < 6 → ∀ i, i < nC C - 1 → eC C i < eC C (i + 1)) C hC i (by omega)
theorem eC_lt : ∀ C, C < 6 → ∀ i, i < nC C → eC C i < 10 ^ C := by decide +kernel
theorem pm_adv : ∀ C, C < 6 → ∀ i, i < nC C → (advN C (pm C i)).1 = decide (i + 1 < nC C) ∧ ∀ q, q < C → i + 1 < nC C → (advN C (pm C i)).2 q = pm C (i + 1) q := by decide +kernel
theorem nC_le : ∀ C, C < 6 → nC C ≤ 120 := by decide
theorem nC_pos : ∀ C, C < 6 → 0 < C → 0 < nC C := by decide
theorem pm_0 : ∀ C, C < 6 → ∀ q, q < C → pm C 0 q = q := by decide
set_option maxRecDepth 100000 in
theorem eC_isB : ∀ C, C < 6 → ∀ i, i < nC C → isB C (nI (eC C i)) = true ∧ ∀ q, q < C → bRow C (nI (eC C i)) q = nI (pm C i q) := by decide +kernel
def inC (C v : Nat) : Bool := Nat.blt (srch (fun i => Nat.beq (eC C i) v) (nC C)) (nC C)
theorem inC_ex {C v : Nat} (h : inC C v = true) : ∃ i, i < nC C ∧ eC C i = v := by
  unfold inC at h
  have h1 : srch (fun i => Nat.beq (eC C i) v) (nC C) < nC C := by
    have := Nat.le_of_ble_eq_true h
    omega
  exact ⟨_, h1, Nat.eq_of_beq_eq_true (srch_yes h1)⟩
theorem all1 : ∀ a, a < 1 → (inC 1 (a)) = true := by decide +kernel
theorem all2 : ∀ a, a < 2 → ∀ b, b < 2 → (Nat.beq a b || inC 2 (10 * a + b)) = true := by decide +kernel
theorem all3 : ∀ a, a < 3 → ∀ b, b < 3 → ∀ c, c < 3 → (Nat.beq a b || (Nat.beq a c || (Nat.beq b c || inC 3 (10 * (10 * a + b) + c)))) = true := by decide +kernel
theorem all4 : ∀ a, a < 4 → ∀ b, b < 4 → ∀ c, c < 4 → ∀ d, d < 4 → (Nat.beq a b || (Nat.beq a c || (Nat.beq b c || (Nat.beq a d || (Nat.beq b d || (Nat.beq c d || inC 4 (10 * (10 * (10 * a + b) + c) + d))))))) = true := by decide +kernel
theorem all5 : ∀ a, a < 5 → ∀ b, b < 5 → ∀ c, c < 5 → ∀ d, d < 5 → ∀ e, e < 5 → (Nat.beq a b || (Nat.beq a c || (Nat.beq b c || (Nat.beq a d || (Nat.beq b d || (Nat.beq c d || (Nat.beq a e || (Nat.beq b e || (Nat.beq c e || (Nat.beq d e || inC 5 (10 * (10 * (10 * (10 * a + b) + c) + d) + e))))))))))) = true := by decide +kernel
theorem or_ne {a b : Nat} {X : Bool} (h : (Nat.beq a b || X) = true) (hne : a ≠ b) : X = true := by
  rw [beq_ne hne] at h
  exact h
/-- every ballot's number is among them -/
theorem isB_ex {C : Nat} {code : Nat} (h0 : 0 < C) (hC : C ≤ 5) (hc : code < 2 ^ 31) (h : isB C (nI code) = true) : ∃ i, i < nC C ∧ eC C i = code := by
  obtain ⟨g, h1, h2, h3⟩ := isB_g hC h
  have hv : vlN g C < 10 ^ C := vlN_lt (fun q hq => by have := (h1 q hq).1; omega)
  have h10 : 10 ^ C ≤ 10 ^ 5 := Nat.pow_le_pow_right (by omega) hC
  have ev : code = vlN g C := (nI_eq hc (by omega)).mp h3
  rw [ev]
  have ne : ∀ p q, p < C → q < C → p ≠ q → g p ≠ g q := fun p q hp hq hne e => hne (h2 p q hp hq e)
  have hC' : C = 1 ∨ C = 2 ∨ C = 3 ∨ C = 4 ∨ C = 5 := by omega
  have e1 : vlN g 1 = g 0 := by show 10 * 0 + g 0 = g 0; omega
  have e2 : vlN g 2 = 10 * g 0 + g 1 := by show 10 * vlN g 1 + g 1 = _; rw [e1]
  have e3 : vlN g 3 = 10 * (10 * g 0 + g 1) + g 2 := by show 10 * vlN g 2 + g 2 = _; rw [e2]
  have e4 : vlN g 4 = 10 * (10 * (10 * g 0 + g 1) + g 2) + g 3 := by show 10 * vlN g 3 + g 3 = _; rw [e3]
  have e5 : vlN g 5 = 10 * (10 * (10 * (10 * g 0 + g 1) + g 2) + g 3) + g 4 := by show 10 * vlN g 4 + g 4 = _; rw [e4]
  rcases hC' with rfl | rfl | rfl | rfl | rfl
  · rw [e1]
    exact inC_ex (all1 _ (h1 0 (by omega)).1)
  · rw [e2]
    exact inC_ex (or_ne (all2 _ (h1 0 (by omega)).1 _ (h1 1 (by omega)).1) (ne 0 1 (by omega) (by omega) (by omega)))
  · rw [e3]
    exact inC_ex (or_ne (or_ne (or_ne (all3 _ (h1 0 (by omega)).1 _ (h1 1 (by omega)).1 _ (h1 2 (by omega)).1) (ne 0 1 (by omega) (by omega) (by omega))) (ne 0 2 (by omega) (by omega) (by omega))) (ne 1 2 (by omega) (by omega) (by omega)))
  · rw [e4]
    exact inC_ex (or_ne (or_ne (or_ne (or_ne (or_ne (or_ne (all4 _ (h1 0 (by omega)).1 _ (h1 1 (by omega)).1 _ (h1 2 (by omega)).1 _ (h1 3 (by omega)).1) (ne 0 1 (by omega) (by omega) (by omega))) (ne 0 2 (by omega) (by omega) (by omega))) (ne 1 2 (by omega) (by omega) (by omega))) (ne 0 3 (by omega) (by omega) (by omega))) (ne 1 3 (by omega) (by omega) (by omega))) (ne 2 3 (by omega) (by omega) (by omega)))
  · rw [e5]
    exact inC_ex (or_ne (or_ne (or_ne (or_ne (or_ne (or_ne (or_ne (or_ne (or_ne (or_ne (all5 _ (h1 0 (by omega)).1 _ (h1 1 (by omega)).1 _ (h1 2 (by omega)).1 _ (h1 3 (by omega)).1 _ (h1 4 (by omega)).1) (ne 0 1 (by omega) (by omega) (by omega))) (ne 0 2 (by omega) (by omega) (by omega))) (ne 1 2 (by omega) (by omega) (by omega))) (ne 0 3 (by omega) (by omega) (by omega))) (ne 1 3 (by omega) (by omega) (by omega))) (ne 2 3 (by omega) (by omega) (by omega))) (ne 0 4 (by omega) (by omega) (by omega))) (ne 1 4 (by omega) (by omega) (by omega))) (ne 2 4 (by omega) (by omega) (by omega))) (ne 3 4 (by omega) (by omega) (by omega)))
theorem eC_mono {C : Nat} (hC : C ≤ 5) {i j : Nat} (hij : i < j) (hj : j < nC C) : eC C i < eC C j := by
  induction j with
  | zero => omega
  | succ j ih =>
    have h1 := eC_up C (by omega) j hj
    by_cases c : i = j
    · rw [c]; exact h1
    · exact Nat.lt_trans (ih (by omega) (by omega)) h1
/-- how many of them are less than a number -/
def rkC (C code : Nat) : Nat := srch (fun i => decide (code ≤ eC C i)) (nC C)
theorem rkC_0 {C : Nat} : rkC C 0 = 0 := by
  unfold rkC
  match h : nC C with
  | 0 => rfl
  | n + 1 => rfl
theorem rkC_end {C : Nat} (hC : C ≤ 5) : rkC C (10 ^ C) = nC C := srch_none (fun j hj => by
  have := eC_lt C (by omega) j hj
  exact decide_eq_false (by omega))
theorem rkC_no {C code : Nat} (h0 : 0 < C) (hC : C ≤ 5) (h : isB C (nI code) = false) : rkC C (code + 1) = rkC C code := srch_cg (fun j hj => by
  have hne : eC C j ≠ code := fun e => by
    have := (eC_isB C (by omega) j hj).1
    rw [e, h] at this
    cases this
  by_cases c : code ≤ eC C j
  · rw [decide_eq_true c, decide_eq_true (by omega)]
  · rw [decide_eq_false c, decide_eq_false (by omega)])
theorem rkC_yes {C code : Nat} (h0 : 0 < C) (hC : C ≤ 5) (hc : code < 2 ^ 31) (h : isB C (nI code) = true) : rkC C code < nC C ∧ eC C (rkC C code) = code ∧ rkC C (code + 1) = rkC C code + 1 := by
  obtain ⟨i, hi, e⟩ := isB_ex h0 hC hc h
  have e1 : rkC C code = i := srch_eq hi (decide_eq_true (by omega)) (fun j hj => by
    have := eC_mono hC hj hi
    exact decide_eq_false (by omega))
  rw [e1]
  refine ⟨hi, e, ?_⟩
  by_cases c : i + 1 < nC C
  · exact srch_eq c (decide_eq_true (by have := eC_up C (by omega) i c; omega)) (fun j hj => by
      by_cases d : j = i
      · rw [d]; exact decide_eq_false (by omega)
      · have := eC_mono hC (show j < i by omega) hi
        exact decide_eq_false (by omega))
  · have e2 : rkC C (code + 1) = nC C := srch_none (fun j hj => by
      by_cases d : j = i
      · rw [d]; exact decide_eq_false (by omega)
      · have := eC_mono hC (show j < i by omega) hi
        exact decide_eq_false (by omega))
    omega
/-! the class's step to the next order -/
theorem c_48 {Y : Sm} {f : Nat → Int32} {a b : Nat} (ha : a < 5) (hb : b < 5) : fn_48 (nI a) (nI b) (sF Y 46 0 f) = some ((), sF Y 46 0 (upd (upd f a (f b)) b (f a))) := by
  unfold fn_48
  rw [ck_in ha (by omega), ck_in hb (by omega), ix_nI (by omega), ix_nI (by omega), gI_sFs, wr_t, wr_t, sI_s, sI_s]
theorem sw_ok {f : Nat → Int32} {g : Nat → Nat} {C a b : Nat} (h : ∀ q, q < C → f q = nI (g q)) (ha : a < C) (hb : b < C) : ∀ q, q < C → upd (upd f a (f b)) b (f a) q = nI (swN g a b q) := fun q hq => by
  unfold swN
  by_cases c : q = b
  · rw [if_pos c, c, upd_at, h a ha]
  · rw [if_neg c, upd_ne c]
    by_cases d : q = a
    · rw [if_pos d, d, upd_at, h b hb]
    · rw [if_neg d, upd_ne d, h q hq]
theorem c_47a {Y : Sm} {C : Nat} {g : Nat → Nat} {l2 : Int32} (hC : C ≤ 5) (h : ∀ q, q < C → gI Y.1 46 0 q = nI (g q)) (hg : ∀ q, q < C → g q < 10) : ∀ k, k + 1 ≤ C → ∀ N, k < N → lp (fun s => fn_47_L11 l2 s.1 s.2) N (nI k - nI 1, Y) = some (.inl (nI (pvS g k) - nI 1, Y)) := by
  intro k
  induction k with
  | zero =>
    intro _ N hN
    obtain ⟨N, rfl⟩ : ∃ M, N = M + 1 := ⟨N - 1, by omega⟩
    refine lp_sr (s := (nI 0 - nI 1, Y)) ?_
    simp only [fn_47_L11]
    rw [if_pos m1_lt]
    rfl
  | succ k ih =>
    intro hk N hN
    obtain ⟨N, rfl⟩ : ∃ M, N = M + 1 := ⟨N - 1, by omega⟩
    have h1 := hg k (by omega)
    have h2 := hg (k + 1) (by omega)
    rw [show nI (k + 1) - nI 1 = nI k from pk_sub (by omega)]
    have e : fn_47_L11 l2 (nI k) Y = if g k ≤ g (k + 1) then some (.inr (.inl (nI k, Y))) else some (.inl (nI k - nI 1, Y)) := by
      unfold fn_47_L11
      rw [if_neg (p_nlt (by omega)), nI_add, ck_in (by omega) (by omega), ck_in (by omega) (by omega), ix_nI (by omega), ix_nI (by omega), h k (by omega), h (k + 1) (by omega), add_m1]
      by_cases c : g k ≤ g (k + 1)
      · rw [iteI_le_t c (by omega), if_pos c]
      · rw [iteI_le_f (by omega) (by omega), if_neg c]
    by_cases c : g k ≤ g (k + 1)
    · rw [if_pos c] at e
      rw [lp_sr (F := fun s => fn_47_L11 l2 s.1 s.2) (s := (nI k, Y)) e]
      have : pvS g (k + 1) = k + 1 := if_pos c
      rw [this, show nI (k + 1) - nI 1 = nI k from pk_sub (by omega)]
    · rw [if_neg c] at e
      rw [lp_sl (F := fun s => fn_47_L11 l2 s.1 s.2) (s := (nI k, Y)) e, ih (by omega) N (by omega)]
      have : pvS g (k + 1) = pvS g k := if_neg c
      rw [this]
theorem c_47b {Y : Sm} {C p : Nat} {g : Nat → Nat} {l2 : Int32} (hC : C ≤ 5) (hp : p < C) (h : ∀ q, q < C → gI Y.1 46 0 q = nI (g q)) (hg : ∀ q, q < C → g q < 10) : ∀ k, k < C → ∀ N, k < N → lp (fun s => fn_47_L43 l2 (nI p) s.1 s.2) N (nI k, Y) = some (.inl (nI (nxS g p k), Y)) := by
  intro k
  induction k with
  | zero =>
    intro _ N hN
    obtain ⟨N, rfl⟩ : ∃ M, N = M + 1 := ⟨N - 1, by omega⟩
    refine lp_sr (s := (nI 0, Y)) ?_
    simp only [fn_47_L43]
    rw [iteI_le_t (Nat.zero_le _) (by omega)]
    rfl
  | succ k ih =>
    intro hk N hN
    obtain ⟨N, rfl⟩ : ∃ M, N = M + 1 := ⟨N - 1, by omega⟩
    have h1 := hg p (by omega)
    have h2 := hg (k + 1) (by omega)
    have e : fn_47_L43 l2 (nI p) (nI (k + 1)) Y = if k + 1 ≤ p then some (.inr (.inl (nI (k + 1), Y))) else if g p ≤ g (k + 1) then some (.inr (.inl (nI (k + 1), Y))) else some (.inl (nI k, Y)) := by
      unfold fn_47_L43
      by_cases c : k + 1 ≤ p
      · rw [iteI_le_t c (by omega), if_pos c]
      · rw [iteI_le_f (by omega) (by omega), if_neg c, ck_in (by omega) (by omega), ck_in (by omega) (by omega), ix_nI (by omega), ix_nI (by omega), h p hp, h (k + 1) hk, add_m1, show nI (k + 1) - nI 1 = nI k from pk_sub (by omega)]
        by_cases d : g p ≤ g (k + 1)
        · rw [iteI_le_t d (by omega), if_pos d]
        · rw [iteI_le_f (by omega) (by omega), if_neg d]
    by_cases c : k + 1 ≤ p
    · rw [if_pos c] at e
      rw [lp_sr (F := fun s => fn_47_L43 l2 (nI p) s.1 s.2) (s := (nI (k + 1), Y)) e]
      have : nxS g p (k + 1) = k + 1 := if_pos c
      rw [this]
    · by_cases d : g p ≤ g (k + 1)
      · rw [if_neg c, if_pos d] at e
        rw [lp_sr (F := fun s => fn_47_L43 l2 (nI p) s.1 s.2) (s := (nI (k + 1), Y)) e]
        have : nxS g p (k + 1) = k + 1 := (if_neg c).trans (if_pos d)
        rw [this]
      · rw [if_neg c, if_neg d] at e
        rw [lp_sl (F := fun s => fn_47_L43 l2 (nI p) s.1 s.2) (s := (nI (k + 1), Y)) e, ih (by omega) N (by omega)]
        have : nxS g p (k + 1) = nxS g p k := (if_neg c).trans (if_neg d)
        rw [this]
theorem nxS_le (g : Nat → Nat) (p : Nat) : ∀ k, nxS g p k ≤ k := by
  intro k
  induction k with
  | zero => exact Nat.le_refl _
  | succ k ih =>
    unfold nxS
    by_cases c : k + 1 ≤ p
    · rw [if_pos c]; exact Nat.le_refl _
    · rw [if_neg c]
      by_cases d : g p ≤ g (k + 1)
      · rw [if_pos d]; exact Nat.le_refl _
      · rw [if_neg d]; omega
theorem pvS_le (g : Nat → Nat) : ∀ k, pvS g k ≤ k := by
  intro k
  induction k with
  | zero => exact Nat.le_refl _
  | succ k ih =>
    unfold pvS
    by_cases d : g k ≤ g (k + 1)
    · rw [if_pos d]; exact Nat.le_refl _
    · rw [if_neg d]; omega
theorem c_47c {Y : Sm} {C : Nat} (hC : C ≤ 5) : ∀ (n l r : Nat) (f : Nat → Int32) (g : Nat → Nat), (∀ q, q < C → f q = nI (g q)) → l < 10 → r < C → r ≤ l + 2 * n → ∀ N, n < N → ∃ f', lp (fun s => fn_47_L82 s.1 s.2.1 s.2.2) N (nI l, nI r, sF Y 46 0 f) = some (nI 1, sF Y 46 0 f') ∧ ∀ q, q < C → f' q = nI (rvN n g l r q) := by
  intro n
  induction n with
  | zero =>
    intro l r f g h hl hr hn N hN
    obtain ⟨N, rfl⟩ : ∃ M, N = M + 1 := ⟨N - 1, by omega⟩
    refine ⟨f, lp_sr (s := (nI l, nI r, sF Y 46 0 f)) ?_, h⟩
    simp only [fn_47_L82]
    rw [iteI_le_t (by omega) (by omega)]
  | succ n ih =>
    intro l r f g h hl hr hn N hN
    obtain ⟨N, rfl⟩ : ∃ M, N = M + 1 := ⟨N - 1, by omega⟩
    by_cases c : r ≤ l
    · have e : rvN (n + 1) g l r = g := if_pos c
      rw [e]
      refine ⟨f, lp_sr (s := (nI l, nI r, sF Y 46 0 f)) ?_, h⟩
      simp only [fn_47_L82]
      rw [iteI_le_t c (by omega)]
    · have e : rvN (n + 1) g l r = rvN n (swN g l r) (l + 1) (r - 1) := if_neg c
      rw [e]
      obtain ⟨f', e2, h2⟩ := ih (l + 1) (r - 1) (upd (upd f l (f r)) r (f l)) (swN g l r) (sw_ok h (by omega) hr) (by omega) (by omega) (by omega) N (by omega)
      refine ⟨f', ?_, h2⟩
      rw [lp_sl (F := fun s => fn_47_L82 s.1 s.2.1 s.2.2) (s := (nI l, nI r, sF Y 46 0 f)) (s' := (nI (l + 1), nI (r - 1), sF Y 46 0 (upd (upd f l (f r)) r (f l))))]
      · exact e2
      · simp only [fn_47_L82]
        rw [iteI_le_f (by omega) (by omega), c_48 (by omega) (by omega), bd_t, nI_add, add_m1, show nI r - nI 1 = nI (r - 1) from pk_sub (by omega)]
theorem c2_eq : ∀ C, C < 6 → 0 < C → nI C - nI 2 = nI (C - 1) - nI 1 := by decide
theorem c_47 {Y : Sm} {C : Nat} {f : Nat → Int32} {g : Nat → Nat} (h0 : 0 < C) (hC : C ≤ 5) (h : ∀ q, q < C → f q = nI (g q)) (hg : ∀ q, q < C → g q < 10) : ∃ f', fn_47 (nI C) (sF Y 46 0 f) = some (bI (advN C g).1, sF Y 46 0 f') ∧ ∀ q, q < C → f' q = nI ((advN C g).2 q) := by
  have hf : ∀ q, q < C → gI (sF Y 46 0 f).1 46 0 q = nI (g q) := fun q hq => by rw [gI_sFs]; exact h q hq
  have hp := pvS_le g (C - 1)
  unfold fn_47
  rw [iteI_lt_f hC (by omega), c2_eq C (by omega) h0, c_47a hC hf hg (C - 1) (by omega) FU (FU_lt (by omega)), exd_l]
  unfold fn_47_J32 advN
  by_cases c : pvS g (C - 1) = 0
  · rw [if_pos c, c]
    show ∃ f', (if nI 0 ≤ nI 0 - nI 1 then _ else _) = _ ∧ _
    rw [if_neg (show ¬ nI 0 ≤ nI 0 - nI 1 by decide)]
    exact ⟨f, rfl, h⟩
  · have e1 : nI (pvS g (C - 1)) - nI 1 = nI (pvS g (C - 1) - 1) := pk_sub (by omega)
    have hn := nxS_le g (pvS g (C - 1) - 1) (C - 1)
    rw [if_neg c, e1, iteI_le_t (Nat.zero_le _) (by omega), pk_sub (by omega), c_47b hC (by omega) hf hg (C - 1) (by omega) FU (FU_lt (by omega)), exd_l]
    unfold fn_47_J65
    rw [c_48 (by omega) (by omega), bd_t, nI_add, pk_sub (by omega), show pvS g (C - 1) - 1 + 1 = pvS g (C - 1) by omega]
    obtain ⟨f', e2, h2⟩ := c_47c (Y := Y) hC C (pvS g (C - 1)) (C - 1) _ _ (sw_ok h (show pvS g (C - 1) - 1 < C by omega) (show nxS g (pvS g (C - 1) - 1) (C - 1) < C by omega)) (by omega) (by omega) (by omega) FU (FU_lt (by omega))
    exact ⟨f', e2, h2⟩
theorem c_43 (Y : Sm) : fn_43_46 Y = some ((), sF Y 46 0 (fun q => if q < 5 then nI q else gI Y.1 46 0 q)) := by
  unfold fn_43_46
  refine lp_run (fun j => (nI j, sF Y 46 0 (fun q => if q < j then nI q else gI Y.1 46 0 q))) 5 (FU_lt (by omega)) (fun j hj => ?_) ?_ ?_
  · simp only [fn_43_46_L2]
    rw [iteI_le_f hj (by omega), ck_in hj (by omega), ix_nI (by omega), wr_t, sI_s, nI_add]
    congr 4
    funext q
    by_cases d : q = j
    · rw [d, upd_at, if_pos (by omega)]
    · rw [upd_ne d]
      by_cases d2 : q < j
      · rw [if_pos d2, if_pos (by omega)]
      · rw [if_neg d2, if_neg (by omega)]
  · simp only [fn_43_46_L2]
    rw [iteI_le_t (Nat.le_refl _) (by omega)]
  · show _ = (nI 0, sF Y 46 0 (fun q => if q < 0 then nI q else gI Y.1 46 0 q))
    have : (fun q => if q < 0 then nI q else gI Y.1 46 0 q) = gI Y.1 46 0 := funext fun q => if_neg (by omega)
    rw [this, sF_self]
