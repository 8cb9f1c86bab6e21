/-! pairs that stand the other way round -/
def sumQ (f : Nat → Nat) : Nat → Nat
  | 0 => 0
  | n + 1 => sumQ f n + f n
theorem sumQ_cg {f g : Nat → Nat} {n : Nat} (h : ∀ j, j < n → f j = g j) : sumQ f n = sumQ g n := by
  induction n with
  | zero => rfl
  | succ n ih =>
    unfold sumQ
    rw [ih (fun j hj => h j (by omega)), h n (by omega)]
theorem sumQ_add (f g : Nat → Nat) (n : Nat) : sumQ (fun j => f j + g j) n = sumQ f n + sumQ g n := by
  induction n with
  | zero => rfl
  | succ n ih =>
    unfold sumQ
    rw [ih]
    omega
theorem sumQ_0 (n : Nat) : sumQ (fun _ => 0) n = 0 := by
  induction n with
  | zero => rfl
  | succ n ih =>
    unfold sumQ
    rw [ih]
theorem sumQ_comm (g : Nat → Nat → Nat) (n m : Nat) : sumQ (fun p => sumQ (g p) m) n = sumQ (fun q => sumQ (fun p => g p q) n) m := by
  induction n with
  | zero =>
    show 0 = sumQ (fun q => 0) m
    rw [sumQ_0]
  | succ n ih =>
    show sumQ (fun p => sumQ (g p) m) n + sumQ (g n) m = sumQ (fun q => sumQ (fun p => g p q) n + g n q) m
    rw [ih, sumQ_add (fun q => sumQ (fun p => g p q) n) (g n) m]
theorem sumQ_one {k : Nat} (v : Nat) : ∀ n, sumQ (fun p => if p = k then v else 0) n = if k < n then v else 0 := by
  intro n
  induction n with
  | zero => rfl
  | succ n ih =>
    unfold sumQ
    rw [ih]
    by_cases c : n = k
    · rw [if_pos c, if_neg (by omega), if_pos (by omega)]; omega
    · rw [if_neg c]
      by_cases d : k < n
      · rw [if_pos d, if_pos (by omega), Nat.add_zero]
      · rw [if_neg d, if_neg (by omega)]
/-- two orders of each other -/
def Inv2 (x y : Nat → Nat) (C : Nat) : Prop := (∀ p, p < C → x p < C ∧ y (x p) = p) ∧ ∀ u, u < C → y u < C ∧ x (y u) = u
theorem sumQ_perm {x y : Nat → Nat} {C : Nat} (h : Inv2 x y C) (f : Nat → Nat) : sumQ (fun p => f (x p)) C = sumQ f C := by
  have e1 : sumQ (fun p => f (x p)) C = sumQ (fun p => sumQ (fun u => if u = x p then f u else 0) C) C := sumQ_cg (fun p hp => by
    have e : sumQ (fun u => if u = x p then f u else 0) C = sumQ (fun u => if u = x p then f (x p) else 0) C := sumQ_cg (fun u _ => by
      by_cases c : u = x p
      · rw [if_pos c, if_pos c, c]
      · rw [if_neg c, if_neg c])
    rw [e, sumQ_one, if_pos (h.1 p hp).1])
  rw [e1, sumQ_comm]
  refine sumQ_cg (fun u hu => ?_)
  have e : sumQ (fun p => if u = x p then f u else 0) C = sumQ (fun p => if p = y u then f u else 0) C := sumQ_cg (fun p hp => by
    by_cases c : u = x p
    · rw [if_pos c, if_pos (by rw [c, (h.1 p hp).2])]
    · rw [if_neg c, if_neg (fun z => c (by rw [z, (h.2 u hu).2]))])
  rw [e, sumQ_one, if_pos (h.2 u hu).1]
def invA (x : Nat → Nat) (C : Nat) : Nat := sumQ (fun p => sumQ (fun q => if p < q ∧ x q < x p then 1 else 0) C) C
theorem invA_cg {x y : Nat → Nat} {C : Nat} (h : ∀ p, p < C → x p = y p) : invA x C = invA y C :=
  sumQ_cg (fun p hp => sumQ_cg (fun q hq => by rw [h p hp, h q hq]))
theorem invA_inv {x y : Nat → Nat} {C : Nat} (h : Inv2 x y C) : invA y C = invA x C := by
  unfold invA
  rw [← sumQ_perm h (fun u => sumQ (fun v => if u < v ∧ y v < y u then 1 else 0) C)]
  have e : sumQ (fun p => sumQ (fun v => if x p < v ∧ y v < y (x p) then 1 else 0) C) C = sumQ (fun p => sumQ (fun q => if x p < x q ∧ q < p then 1 else 0) C) C := sumQ_cg (fun p hp => by
    rw [← sumQ_perm h (fun v => if x p < v ∧ y v < y (x p) then 1 else 0)]
    exact sumQ_cg (fun q hq => by rw [(h.1 p hp).2, (h.1 q hq).2]))
  show sumQ (fun p => sumQ (fun v => if x p < v ∧ y v < y (x p) then 1 else 0) C) C = _
  rw [e, sumQ_comm]
  exact sumQ_cg (fun p hp => sumQ_cg (fun q hq => by
    by_cases c : p < q ∧ x q < x p
    · rw [if_pos c, if_pos ⟨c.2, c.1⟩]
    · rw [if_neg c, if_neg (fun z => c ⟨z.2, z.1⟩)]))
theorem cnt_sum {p : Nat → Bool} {j n : Nat} (h : j ≤ n) : cntN p j = sumQ (fun q => if q < j ∧ p q = true then 1 else 0) n := by
  induction n with
  | zero =>
    obtain rfl : j = 0 := by omega
    rfl
  | succ n ih =>
    unfold sumQ
    by_cases c : j = n + 1
    · subst c
      have e : sumQ (fun q => if q < n + 1 ∧ p q = true then 1 else 0) n = cntN p n := by
        clear ih h
        induction n with
        | zero => rfl
        | succ n ih =>
          unfold sumQ
          have e1 : sumQ (fun q => if q < n + 1 + 1 ∧ p q = true then 1 else 0) n = sumQ (fun q => if q < n + 1 ∧ p q = true then 1 else 0) n := sumQ_cg (fun q hq => by
            by_cases d : p q = true
            · rw [if_pos ⟨by omega, d⟩, if_pos ⟨by omega, d⟩]
            · rw [if_neg (fun z => d z.2), if_neg (fun z => d z.2)])
          rw [e1, ih]
          cases d : p n with
          | true => rw [cnt_t d, if_pos ⟨by omega, rfl⟩]
          | false => rw [cnt_f d, if_neg (fun z => by cases z.2), Nat.add_zero]
      rw [e]
      cases d : p n with
      | true => rw [cnt_t d, if_pos ⟨by omega, rfl⟩]
      | false => rw [cnt_f d, if_neg (fun z => by cases z.2), Nat.add_zero]
    · rw [ih (by omega), if_neg (fun z => by omega), Nat.add_zero]
/-- as the class counts -/
theorem inv_c (x : Nat → Nat) (C : Nat) : sumQ (fun p => cntN (fun q => decide (x p < x q)) p) C = invA x C := by
  unfold invA
  rw [sumQ_comm]
  refine sumQ_cg (fun p hp => ?_)
  rw [cnt_sum (n := C) (by omega)]
  refine sumQ_cg (fun q hq => ?_)
  by_cases c : q < p ∧ x p < x q
  · rw [if_pos ⟨c.1, decide_eq_true c.2⟩, if_pos c]
  · rw [if_neg (fun z => c ⟨z.1, of_decide_eq_true z.2⟩), if_neg c]
/-- as the reference counts -/
theorem inv_m (x : Nat → Nat) (C : Nat) : sumQ (fun p => cntN (fun q => decide (p < q) && decide (x q < x p)) C) C = invA x C := by
  unfold invA
  refine sumQ_cg (fun p hp => ?_)
  rw [cnt_sum (n := C) (Nat.le_refl _)]
  refine sumQ_cg (fun q hq => ?_)
  by_cases c : p < q ∧ x q < x p
  · rw [if_pos ⟨hq, by rw [decide_eq_true c.1, decide_eq_true c.2]; rfl⟩, if_pos c]
  · rw [if_neg (fun z => c (by
      obtain ⟨z1, z2⟩ := Bool.and_eq_true_iff.mp z.2
      exact ⟨of_decide_eq_true z1, of_decide_eq_true z2⟩)), if_neg c]
/-- no pair: the same order -/
theorem invA_0 {x : Nat → Nat} {C : Nat} (hx : ∀ p, p < C → x p < C) (hi : ∀ p q, p < C → q < C → x p = x q → p = q) : invA x C = 0 ↔ ∀ p, p < C → x p = p := by
  have s0 : ∀ (f : Nat → Nat) n, sumQ f n = 0 → ∀ j, j < n → f j = 0 := fun f n => by
    induction n with
    | zero => intro _ j hj; exact absurd hj (Nat.not_lt_zero _)
    | succ n ih =>
      intro h j hj
      unfold sumQ at h
      by_cases c : j = n
      · rw [c]; omega
      · exact ih (by omega) j (by omega)
  constructor
  · intro h
    have mono : ∀ p q, p < C → q < C → p < q → x p < x q := fun p q hp hq hpq => by
      have h1 := s0 _ _ (s0 _ _ h p hp) q hq
      by_cases c : x q < x p
      · have h1 : (if p < q ∧ x q < x p then 1 else 0) = 0 := h1
        rw [if_pos ⟨hpq, c⟩] at h1
        cases h1
      · rcases Nat.lt_or_ge (x p) (x q) with g | g
        · exact g
        · have := hi p q hp hq (by omega)
          omega
    have lo : ∀ p, p < C → p ≤ x p := fun p => by
      induction p with
      | zero => intro _; exact Nat.zero_le _
      | succ p ih =>
        intro hp
        have := ih (by omega)
        have := mono p (p + 1) (by omega) hp (by omega)
        omega
    have up : ∀ d p, p + d + 1 = C → x p + d + 1 ≤ C := fun d => by
      induction d with
      | zero => intro p hp; have := hx p (by omega); omega
      | succ d ih =>
        intro p hp
        have := ih (p + 1) (by omega)
        have := mono p (p + 1) (by omega) (by omega) (by omega)
        omega
    intro p hp
    have := lo p hp
    have := up (C - 1 - p) p (by omega)
    omega
  · intro h
    have e : invA x C = sumQ (fun p => 0) C := sumQ_cg (fun p hp => by
      have e : sumQ (fun q => if p < q ∧ x q < x p then 1 else 0) C = sumQ (fun q => 0) C := sumQ_cg (fun q hq => by
        rw [if_neg (fun z => by
          have := h p hp
          have := h q hq
          omega)])
      rw [e, sumQ_0])
    rw [e, sumQ_0]
theorem invA_le (x : Nat → Nat) (C : Nat) (hC : C ≤ 5) : invA x C ≤ 25 := by
  have s1 : ∀ (f : Nat → Nat) b n, (∀ j, j < n → f j ≤ b) → sumQ f n ≤ b * n := fun f b n => by
    induction n with
    | zero => intro _; exact Nat.le_refl _
    | succ n ih =>
      intro h
      unfold sumQ
      have := ih (fun j hj => h j (by omega))
      have := h n (by omega)
      rw [Nat.mul_succ]
      omega
  have h1 : invA x C ≤ C * C := s1 _ _ _ (fun p hp => Nat.le_trans (s1 _ 1 C (fun q hq => by show (if p < q ∧ x q < x p then 1 else 0) ≤ 1; split <;> omega)) (by omega))
  have h2 : C * C ≤ 5 * 5 := Nat.mul_le_mul hC hC
  omega
theorem sumQ_le {f : Nat → Nat} {j n : Nat} (h : j ≤ n) : sumQ f j ≤ sumQ f n := by
  induction n with
  | zero =>
    obtain rfl : j = 0 := by omega
    exact Nat.le_refl _
  | succ n ih =>
    by_cases c : j = n + 1
    · rw [c]; exact Nat.le_refl _
    · have := ih (by omega)
      show _ ≤ sumQ f n + f n
      omega

