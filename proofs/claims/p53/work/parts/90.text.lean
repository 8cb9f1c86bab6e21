/-! the bytes of the text, names as numbers -/
def sb (n : Nat) : Int32 := (Int8.ofNat n).toInt32
theorem sb_and : ∀ n, n < 256 → sb n &&& nI 255 = nI n := by decide +kernel
theorem sb_int : ∀ n, n < 256 → (sb n).toInt = if n < 128 then (n : Int) else (n : Int) - 256 := by decide +kernel
theorem i8_ex (b : Int8) : ∃ n, n < 256 ∧ b.toInt32 = sb n := by
  refine ⟨b.toUInt8.toNat, b.toUInt8.toNat_lt, ?_⟩
  unfold sb
  congr 1
  have : Int8.ofNat b.toUInt8.toNat = ⟨UInt8.ofNat b.toUInt8.toNat⟩ := rfl
  rw [this, UInt8.ofNat_toNat]
abbrev nL (n : Nat) : Int64 := Int64.ofNat n
theorem nI_nL {n : Nat} (h : n < 2 ^ 31) : (nI n).toInt64 = nL n := by
  rw [← Int64.toInt_inj, Int32.toInt_toInt64, nI_toInt h, Int64.toInt_ofNat_of_lt (by omega)]
theorem nL_add (a b : Nat) : nL a + nL b = nL (a + b) := (Int64.ofNat_add a b).symm
theorem nL_mul (a b : Nat) : nL a * nL b = nL (a * b) := (Int64.ofNat_mul a b).symm
theorem nL_sub {a b : Nat} (h : a ≤ b) : nL b - nL a = nL (b - a) := by
  have : nL b = nL (b - a) + nL a := by rw [nL_add, Nat.sub_add_cancel h]
  rw [this, Int64.add_sub_cancel]
theorem nL_eq {a b : Nat} (ha : a < 2 ^ 63) (hb : b < 2 ^ 63) : nL a = nL b ↔ a = b := by
  rw [← Int64.toInt_inj, Int64.toInt_ofNat_of_lt ha, Int64.toInt_ofNat_of_lt hb]
  omega
theorem sh8 : ((nI 8).toInt64 &&& 63 : Int64) = 8 := by decide
theorem nL_or {x v : Nat} (hx : x < 2 ^ 54) (hv : v < 256) : (nL x <<< (8 : Int64)) ||| nL v = nL (x * 256 + v) := by
  rw [← Int64.toBitVec_inj]
  have e : (8 : Int64).toBitVec.smod 64 = 8 := by decide
  rw [Int64.toBitVec_or, Int64.toBitVec_shiftLeft, e]
  apply BitVec.eq_of_toNat_eq
  have q : ∀ n, (nL n).toBitVec = BitVec.ofNat 64 n := fun n => rfl
  rw [q, q, q, BitVec.toNat_or, BitVec.shiftLeft_eq', BitVec.toNat_shiftLeft, BitVec.toNat_ofNat, BitVec.toNat_ofNat, BitVec.toNat_ofNat]
  have e8 : (8 : BitVec 64).toNat = 8 := rfl
  rw [e8, Nat.mod_eq_of_lt (a := x) (by omega), Nat.mod_eq_of_lt (a := v) (by omega), Nat.mod_eq_of_lt (a := x * 256 + v) (by omega), Nat.shiftLeft_eq, Nat.mod_eq_of_lt (by omega)]
  have := Nat.shiftLeft_add_eq_or_of_lt (show v < 2 ^ 8 by omega) x
  rw [Nat.shiftLeft_eq] at this
  exact this.symm
theorem lg_0 {x y : Int64} : lg_cmp x y = nI 0 ↔ x = y := by
  constructor
  · intro h
    have a : ¬ x < y := fun q => by
      have := (lg_lt0 x y).mpr q
      rw [h] at this
      exact absurd this (by decide)
    have b : ¬ y < x := fun q => by
      have := (lg_gt0 x y).mpr q
      rw [h] at this
      exact absurd this (by decide)
    exact Int64.le_antisymm (Int64.not_lt.mp b) (Int64.not_lt.mp a)
  · intro h
    subst h
    have a := fun q => Int64.lt_irrefl ((lg_lt0 x x).mp q)
    have b := fun q => Int64.lt_irrefl ((lg_gt0 x x).mp q)
    exact Int32.le_antisymm (Int32.not_lt.mp b) (Int32.not_lt.mp a)
/-! words -/
def rv (b k : Nat) : List Nat → Nat
  | [] => 0
  | a :: l => rv b k l * b + (a + k)
theorem rv_eq (b k : Nat) (w : List Nat) : w.foldl (fun x a => x * b + (a + k)) 0 = rv b k w.reverse := by
  rw [List.foldl_eq_foldr_reverse]
  generalize w.reverse = l
  induction l with
  | nil => rfl
  | cons a l ih => show List.foldr _ 0 l * b + (a + k) = _; rw [ih]; rfl
theorem rv_inj {b k : Nat} : ∀ {l l' : List Nat}, (∀ a ∈ l, 1 ≤ a ∧ a + k < b) → (∀ a ∈ l', 1 ≤ a ∧ a + k < b) → rv b k l = rv b k l' → l = l' := by
  intro l
  induction l with
  | nil =>
    intro l' _ h' e
    cases l' with
    | nil => rfl
    | cons a l' =>
      have := h' a (List.mem_cons_self ..)
      have e : 0 = rv b k l' * b + (a + k) := e
      omega
  | cons a l ih =>
    intro l' h h' e
    have ha := h a (List.mem_cons_self ..)
    cases l' with
    | nil =>
      have e : rv b k l * b + (a + k) = 0 := e
      omega
    | cons a' l' =>
      have ha' := h' a' (List.mem_cons_self ..)
      have e : rv b k l * b + (a + k) = rv b k l' * b + (a' + k) := e
      have m : (rv b k l * b + (a + k)) % b = (rv b k l' * b + (a' + k)) % b := by rw [e]
      have d : (rv b k l * b + (a + k)) / b = (rv b k l' * b + (a' + k)) / b := by rw [e]
      rw [Nat.add_comm, Nat.add_mul_mod_self_right, Nat.mod_eq_of_lt ha.2, Nat.add_comm (rv b k l' * b), Nat.add_mul_mod_self_right, Nat.mod_eq_of_lt ha'.2] at m
      rw [Nat.add_comm, Nat.add_mul_div_right _ _ (show 0 < b by omega), Nat.div_eq_of_lt ha.2, Nat.add_comm (rv b k l' * b), Nat.add_mul_div_right _ _ (show 0 < b by omega), Nat.div_eq_of_lt ha'.2] at d
      rw [show a = a' by omega, ih (fun x hx => h x (List.mem_cons_of_mem _ hx)) (fun x hx => h' x (List.mem_cons_of_mem _ hx)) (show rv b k l = rv b k l' by omega)]
theorem rv_lt {b k : Nat} : ∀ {l : List Nat}, (∀ a ∈ l, a + k < b) → rv b k l < b ^ l.length := by
  intro l
  induction l with
  | nil => intro _; exact Nat.one_pos
  | cons a l ih =>
    intro h
    have h1 := h a (List.mem_cons_self ..)
    have h2 := ih (fun x hx => h x (List.mem_cons_of_mem _ hx))
    show rv b k l * b + (a + k) < b ^ (l.length + 1)
    rw [Nat.pow_succ]
    calc rv b k l * b + (a + k) < rv b k l * b + b := by omega
      _ = (rv b k l + 1) * b := by rw [Nat.add_mul, Nat.one_mul]
      _ ≤ b ^ l.length * b := Nat.mul_le_mul_right _ h2
theorem n256_lt {w : List Nat} (h : Wd w) : n256 w < 2 ^ 48 := by
  unfold n256
  rw [rv_eq]
  refine Nat.lt_of_lt_of_le (rv_lt (fun a ha => by have := h.2.2 a (List.mem_reverse.mp ha); omega)) ?_
  rw [List.length_reverse]
  exact Nat.pow_le_pow_right (show 0 < 256 by omega) h.2.1
theorem n256_inj {w w' : List Nat} (h : Wd w) (h' : Wd w') (e : n256 w = n256 w') : w = w' := by
  unfold n256 at e
  rw [rv_eq, rv_eq] at e
  have := rv_inj (fun a ha => by have := h.2.2 a (List.mem_reverse.mp ha); omega) (fun a ha => by have := h'.2.2 a (List.mem_reverse.mp ha); omega) e
  exact List.reverse_inj.mp this
/-- the word of j letters from s on -/
def wl (B : Nat → Nat) (s j : Nat) : List Nat := (List.range j).map (fun i => B (s + i) - 96)
theorem wl_len {B : Nat → Nat} {s j : Nat} : (wl B s j).length = j := by unfold wl; rw [List.length_map, List.length_range]
theorem wl_mem {B : Nat → Nat} {s j : Nat} (h : ∀ i, i < j → 97 ≤ B (s + i) ∧ B (s + i) ≤ 122) : ∀ a ∈ wl B s j, 1 ≤ a ∧ a ≤ 26 := fun a ha => by
  unfold wl at ha
  obtain ⟨i, hi, rfl⟩ := List.mem_map.mp ha
  have := h i (List.mem_range.mp hi)
  omega
theorem wl_Wd {B : Nat → Nat} {s j : Nat} (h0 : 1 ≤ j) (h6 : j ≤ 6) (h : ∀ i, i < j → 97 ≤ B (s + i) ∧ B (s + i) ≤ 122) : Wd (wl B s j) := ⟨by rw [wl_len]; exact h0, by rw [wl_len]; exact h6, wl_mem h⟩
theorem wl_s {B : Nat → Nat} {s j : Nat} : wl B s (j + 1) = wl B s j ++ [B (s + j) - 96] := by
  unfold wl
  rw [List.range_succ, List.map_append]
  rfl
theorem n256_s {B : Nat → Nat} {s j : Nat} (h : 97 ≤ B (s + j)) : n256 (wl B s (j + 1)) = n256 (wl B s j) * 256 + B (s + j) := by
  rw [wl_s]
  unfold n256
  rw [List.foldl_append]
  show _ * 256 + (B (s + j) - 96 + 96) = _
  omega
theorem n256_b {B : Nat → Nat} {s j : Nat} (h6 : j ≤ 6) (h : ∀ i, i < j → 97 ≤ B (s + i) ∧ B (s + i) ≤ 122) : n256 (wl B s j) < 2 ^ 48 := by
  rcases Nat.eq_zero_or_pos j with rfl | h0
  · show 0 < 2 ^ 48; omega
  · exact n256_lt (wl_Wd h0 h6 h)
/-- the class's text: L bytes -/
def Tx (Y : Sm) (L : Nat) (B : Nat → Nat) : Prop := L ≤ 500 ∧ gI Y.1 1 0 1 = nI L ∧ ∀ j, j < L → B j < 256 ∧ gI Y.1 2 0 j = sb (B j)
theorem Tx.cg {Y Z : Sm} {L : Nat} {B : Nat → Nat} (h : Tx Y L B) (h1 : gI Z.1 1 0 1 = gI Y.1 1 0 1) (h2 : gI Z.1 2 0 = gI Y.1 2 0) : Tx Z L B := by
  unfold Tx
  rw [h1, h2]
  exact h
def ltA (n : Nat) : Bool := decide (97 ≤ n ∧ n ≤ 122)
def dgA (n : Nat) : Bool := decide (48 ≤ n ∧ n ≤ 57)
theorem c_18 {Y : Sm} {L i : Nat} {B : Nat → Nat} (h : Tx Y L B) (hi : i < L) : fn_18 (nI i) Y = some (nI (B i), Y) := by
  obtain ⟨h1, h2, h3⟩ := h
  unfold fn_18
  rw [h2, if_neg (p_nlt (by omega)), iteI_lt_t hi (by omega), ck_in (by omega) (by omega), ix_nI (by omega), (h3 i hi).2, sb_and _ (h3 i hi).1]
theorem c_18o {Y : Sm} {L i : Nat} {B : Nat → Nat} (h : Tx Y L B) (hi : L ≤ i) (h2 : i < 2 ^ 31) : fn_18 (nI i) Y = some ((-1 : Int32), Y) := by
  unfold fn_18
  rw [h.2.1, if_neg (p_nlt (by omega)), iteI_lt_f hi (by omega)]
theorem rg_ite {ρ : Type} {a b : Nat} {x y : ρ} {n : Nat} (hn : n < 2 ^ 31) (hb : b < 2 ^ 31) (ha : a < 2 ^ 31) : (if nI n < nI a then x else (if nI b < nI n then x else y)) = cond (decide (a ≤ n ∧ n ≤ b)) y x := by
  by_cases c : n < a
  · rw [iteI_lt_t c (by omega), decide_eq_false (by omega), cnd_f]
  · rw [iteI_lt_f (by omega) (by omega)]
    by_cases d : b < n
    · rw [iteI_lt_t d (by omega), decide_eq_false (by omega), cnd_f]
    · rw [iteI_lt_f (by omega) (by omega), decide_eq_true (by omega), cnd_t]
theorem cond_bI {b : Bool} {Y : Sm} : cond b (some (nI 1, Y)) (some (nI 0, Y)) = some (bI b, Y) := by cases b <;> rfl
theorem c_19 {Y : Sm} {L i : Nat} {B : Nat → Nat} (h : Tx Y L B) (hi : i < L) : fn_19 (nI i) Y = some (bI (ltA (B i)), Y) := by
  have := (h.2.2 i hi).1
  unfold fn_19
  rw [c_18 h hi, bd_t, rg_ite (by omega) (by omega) (by omega)]
  exact cond_bI
theorem c_20 {Y : Sm} {L i : Nat} {B : Nat → Nat} (h : Tx Y L B) (hi : i < L) : fn_20 (nI i) Y = some (bI (dgA (B i)), Y) := by
  have := (h.2.2 i hi).1
  unfold fn_20
  rw [c_18 h hi, bd_t, rg_ite (by omega) (by omega) (by omega)]
  exact cond_bI
theorem ltA_iff {n : Nat} : ltA n = true ↔ 97 ≤ n ∧ n ≤ 122 := decide_eq_true_iff
/-- a name of j letters from s on -/
theorem c_23 {Y : Sm} {L s j : Nat} {B : Nat → Nat} (h : Tx Y L B) (h6 : j ≤ 6) (hs : s + j ≤ L) (hl : ∀ i, i < j → 97 ≤ B (s + i) ∧ B (s + i) ≤ 122) : fn_23 (nI s) (nI (s + j)) Y = some (nL (n256 (wl B s j)), Y) := by
  have hL := h.1
  unfold fn_23
  refine lp_run (fun i => (nL (n256 (wl B s i)), nI (s + i), Y)) j (FU_lt (by omega)) (fun i hi => ?_) ?_ rfl
  · have b1 := n256_b (B := B) (s := s) (j := i) (by omega) (fun q hq => hl q (by omega))
    have b2 := hl i hi
    simp only [fn_23_L5]
    rw [iteI_le_f (by omega) (by omega), c_18 h (by omega), bd_t, sh8, nI_nL (by omega), nL_or (by omega) (by omega), nI_add, ← n256_s b2.1]
    rfl
  · simp only [fn_23_L5]
    rw [iteI_le_t (by omega) (by omega)]

