/-! the distances of all ballots from an order -/
theorem WI_w {P : Pm} (h : WI P) : ∃ w : Nat → Nat, ∀ a, a < P.2.1 → (1 ≤ w a ∧ w a ≤ 99) ∧ P.2.2.2 a = nI (w a) := by
  have hx : ∀ a, ∃ w, a < P.2.1 → (1 ≤ w ∧ w ≤ 99) ∧ P.2.2.2 a = nI w := fun a => by
    by_cases g : a < P.2.1
    · obtain ⟨w, h1⟩ := h a g
      exact ⟨w, fun _ => h1⟩
    · exact ⟨0, fun z => absurd z g⟩
  exact Classical.axiomOfChoice hx
theorem sumN_Q {p : Nat → Bool} {g : Nat → Int32} {w : Nat → Nat} {n : Nat} (h : ∀ j, j < n → g j = nI (w j)) : sumN p g n = nI (sumQ (fun j => cond (p j) (w j) 0) n) := by
  induction n with
  | zero => rfl
  | succ n ih =>
    have ih := ih (fun j hj => h j (by omega))
    show cond (p n) (sumN p g n + g n) (sumN p g n) = nI (sumQ (fun j => cond (p j) (w j) 0) n + cond (p n) (w n) 0)
    cases p n with
    | true => rw [cnd_t, cnd_t, ih, h n (by omega), nI_add]
    | false => rw [cnd_f, cnd_f, ih, Nat.add_zero]
theorem sumQ_mul (k : Nat) (f : Nat → Nat) (n : Nat) : sumQ (fun j => k * f j) n = k * sumQ f n := by
  induction n with
  | zero => rfl
  | succ n ih =>
    unfold sumQ
    rw [ih, Nat.mul_add]
/-- the sum of the distances; y a p: the place in a's ballot of what stands at p -/
def dsN (C A : Nat) (hd : Nat → Bool) (w : Nat → Nat) (y : Nat → Nat → Nat) : Nat := sumQ (fun a => cond (hd a) (w a * invA (y a) C) 0) A
theorem ds_eq (C A : Nat) (hd : Nat → Bool) (w : Nat → Nat) (y : Nat → Nat → Nat) : sumQ (fun p => sumQ (fun q => if p < q then sumQ (fun a => cond (hd a && decide (y a q < y a p)) (w a) 0) A else 0) C) C = dsN C A hd w y := by
  have e1 : sumQ (fun p => sumQ (fun q => if p < q then sumQ (fun a => cond (hd a && decide (y a q < y a p)) (w a) 0) A else 0) C) C = sumQ (fun p => sumQ (fun q => sumQ (fun a => cond (hd a) (w a * (if p < q ∧ y a q < y a p then 1 else 0)) 0) A) C) C := sumQ_cg (fun p _ => sumQ_cg (fun q _ => by
    by_cases c : p < q
    · rw [if_pos c]
      refine sumQ_cg (fun a _ => ?_)
      cases hd a with
      | false => rfl
      | true =>
        rw [Bool.true_and, cnd_t]
        by_cases d : y a q < y a p
        · rw [decide_eq_true d, cnd_t, if_pos ⟨c, d⟩, Nat.mul_one]
        · rw [decide_eq_false d, cnd_f, if_neg (fun z => d z.2), Nat.mul_zero]
    · rw [if_neg c]
      have e : sumQ (fun a => cond (hd a) (w a * (if p < q ∧ y a q < y a p then 1 else 0)) 0) A = sumQ (fun _ => 0) A := sumQ_cg (fun a _ => by
        rw [if_neg (fun z => c z.1), Nat.mul_zero]
        cases hd a <;> rfl)
      rw [e, sumQ_0]))
  rw [e1]
  have e2 : sumQ (fun p => sumQ (fun q => sumQ (fun a => cond (hd a) (w a * (if p < q ∧ y a q < y a p then 1 else 0)) 0) A) C) C = sumQ (fun p => sumQ (fun a => sumQ (fun q => cond (hd a) (w a * (if p < q ∧ y a q < y a p then 1 else 0)) 0) C) A) C := sumQ_cg (fun p _ => sumQ_comm _ _ _)
  rw [e2, sumQ_comm]
  unfold dsN
  refine sumQ_cg (fun a _ => ?_)
  cases hd a with
  | false =>
    have e : sumQ (fun p => sumQ (fun q => cond false (w a * (if p < q ∧ y a q < y a p then 1 else 0)) 0) C) C = sumQ (fun _ => 0) C := sumQ_cg (fun p _ => sumQ_0 C)
    rw [e, sumQ_0]
    rfl
  | true =>
    show sumQ (fun p => sumQ (fun q => w a * (if p < q ∧ y a q < y a p then 1 else 0)) C) C = w a * invA (y a) C
    unfold invA
    rw [← sumQ_mul]
    exact sumQ_cg (fun p _ => sumQ_mul _ _ _)
theorem sumQ_bd {f : Nat → Nat} {b n : Nat} (h : ∀ j, j < n → f j ≤ b) : sumQ f n ≤ b * n := by
  induction n with
  | zero => exact Nat.le_refl _
  | succ n ih =>
    unfold sumQ
    have := ih (fun j hj => h j (by omega))
    have := h n (by omega)
    rw [Nat.mul_succ]
    omega
theorem ds_le {C A : Nat} {hd : Nat → Bool} {w : Nat → Nat} {y : Nat → Nat → Nat} (hC : C ≤ 5) (hA : A ≤ 8) (hw : ∀ a, a < A → w a ≤ 99) : dsN C A hd w y ≤ 20000 := by
  have h1 : dsN C A hd w y ≤ 2475 * A := sumQ_bd (fun a ha => by
    have := invA_le (y a) C hC
    have h2 := hw a ha
    have h3 : w a * invA (y a) C ≤ 99 * 25 := Nat.mul_le_mul h2 this
    cases hd a
    · exact Nat.zero_le _
    · exact h3)
  have h2 : 2475 * A ≤ 2475 * 8 := Nat.mul_le_mul (Nat.le_refl _) hA
  omega
/-- a loop that adds up -/
theorem lp_addQ {Y : Sm} {ρ : Type} {F : Int32 × Int32 × Sm → Option ((Int32 × Int32 × Sm) ⊕ ρ)} {f : Nat → Nat} {n : Nat} {r : Int32 → ρ} (hn : n < 1000000) (j0 acc : Nat) (hj : j0 ≤ n) (h1 : ∀ j a, j0 ≤ j → j < n → F (nI a, nI j, Y) = some (.inl (nI (a + f j), nI (j + 1), Y))) (h2 : ∀ a, F (nI a, nI n, Y) = some (.inr (r (nI a)))) : lp F FU (nI acc, nI j0, Y) = some (r (nI (acc + sumQ (fun i => f (j0 + i)) (n - j0)))) := by
  refine lp_run (fun i => (nI (acc + sumQ (fun i => f (j0 + i)) i), nI (j0 + i), Y)) (n - j0) (FU_lt (by omega)) (fun i hi => ?_) (by rw [show j0 + (n - j0) = n by omega]; exact h2 _) rfl
  rw [h1 (j0 + i) _ (by omega) (by omega), Nat.add_assoc]
  rfl
theorem sumQ_off {f : Nat → Nat} {p : Nat} : ∀ n, p ≤ n → sumQ (fun i => f (p + i)) (n - p) = sumQ (fun q => if q < p then 0 else f q) n := by
  intro n
  induction n with
  | zero => intro h; obtain rfl : p = 0 := by omega
            rfl
  | succ n ih =>
    intro h
    by_cases c : p = n + 1
    · subst c
      rw [Nat.sub_self]
      have e : sumQ (fun q => if q < n + 1 then 0 else f q) (n + 1) = sumQ (fun _ => 0) (n + 1) := sumQ_cg (fun q hq => if_pos hq)
      rw [e, sumQ_0]
      rfl
    · rw [show n + 1 - p = n - p + 1 by omega]
      unfold sumQ
      rw [ih (by omega), if_neg (by omega), show p + (n - p) = n by omega]
/-- the class's disagreement -/
theorem c_29 {Z : Sm} {P : Pm} {r f : Nat → Int32} {w : Nat → Nat} (hN : PN P r) (h : PoF Z P r (-1 : Int32)) (hw : ∀ a, a < P.2.1 → P.2.2.2 a = nI (w a)) (h46 : ∀ p, p < P.1 → gI Z.1 46 0 p = f p) (hf : OrdI f P.1) : fn_29 Z = some (nI (dsN P.1 P.2.1 (hdS P r (-1 : Int32)) w (fun a => plx f (bal r a) P.1)), Z) := by
  have h3 := hN.1
  obtain ⟨b, b1, b2, b3, b4⟩ := ord_i h3.2.1 hf
  have eC := h.1.1
  have e45 : ∀ p q, p < P.1 → q < P.1 → gI Z.1 45 (b q) (b p) = nI (sumQ (fun a => cond (hdS P r (-1 : Int32) a && decide (plx f (bal r a) P.1 q < plx f (bal r a) P.1 p)) (w a) 0) P.2.1) := fun p q hp hq => by
    rw [h.1.2.2.2.2 (b q) (b p) (b1 q hq).1 (b1 p hp).1, sumN_Q hw]
    congr 1
    refine sumQ_cg (fun a _ => ?_)
    unfold prT plx
    rw [(b1 p hp).2, (b1 q hq).2]
    rfl
  have k1 : ∀ p acc, 0 ≤ p → p < P.1 → (fun s : Int32 × Int32 × Sm => fn_29_L4 s.1 s.2.1 s.2.2) (nI acc, nI p, Z) = some (.inl (nI (acc + (fun p => sumQ (fun q => if p < q then sumQ (fun a => cond (hdS P r (-1 : Int32) a && decide (plx f (bal r a) P.1 q < plx f (bal r a) P.1 p)) (w a) 0) P.2.1 else 0) P.1) p), nI (p + 1), Z)) := fun p acc _ hp => by
    simp only [fn_29_L4, eC]
    rw [iteI_le_f hp (by omega), nI_add]
    have hbp := (b1 p hp).1
    have key2 := lp_addQ (Y := Z) (F := fun s => fn_29_L17_d1 (nI p) s.1 s.2.1 s.2.2) (f := fun q => sumQ (fun a => cond (hdS P r (-1 : Int32) a && decide (plx f (bal r a) P.1 q < plx f (bal r a) P.1 p)) (w a) 0) P.2.1) (n := P.1) (r := fun v => .inl (v, nI (p + 1), Z)) (by omega) (p + 1) acc (by omega) (fun q acc2 hq1 hq => by
      have hbq := (b1 q hq).1
      simp only [fn_29_L17_d1, eC]
      rw [iteI_le_f hq (by omega), ck_in (by omega) (by omega), ix_nI (by omega), h46 q hq, (b1 q hq).2, ck_in (by omega) (by omega), ck_in (by omega) (by omega), ix_nI (by omega), ix_nI (by omega), h46 p hp, (b1 p hp).2, ck_in (by omega) (by omega), ix_nI (by omega), e45 p q hp hq, nI_add, nI_add]) (fun a => by
      simp only [fn_29_L17_d1, eC]
      rw [iteI_le_t (Nat.le_refl _) (by omega), nI_add])
    refine key2.trans (congrArg (fun x => some (Sum.inl (nI (acc + x), nI (p + 1), Z))) ?_)
    refine (sumQ_off (f := fun q => sumQ (fun a => cond (hdS P r (-1 : Int32) a && decide (plx f (bal r a) P.1 q < plx f (bal r a) P.1 p)) (w a) 0) P.2.1) (p := p + 1) P.1 (by omega)).trans ?_
    refine sumQ_cg (fun q _ => ?_)
    by_cases c : p < q
    · rw [if_pos c, if_neg (by omega)]
    · rw [if_neg c, if_pos (by omega)]
  have key := lp_addQ (Y := Z) (F := fun s => fn_29_L4 s.1 s.2.1 s.2.2) (n := P.1) (r := fun v => (v, Z)) (by omega) 0 0 (Nat.zero_le _) k1 (fun a => by
    simp only [fn_29_L4, eC]
    rw [iteI_le_t (Nat.le_refl _) (by omega)])
  unfold fn_29
  rw [key]
  congr 3
  rw [Nat.zero_add, Nat.sub_zero, ← ds_eq]
  exact sumQ_cg (fun p _ => by rw [Nat.zero_add])
/-- the reference's sum -/
theorem r_251 {W : Sm} {P : Pm} {r f : Nat → Int32} {w : Nat → Nat} (hM : ML W P r) (hB : BalI r P.1 P.2.1) (hw : ∀ a, a < P.2.1 → P.2.2.2 a = nI (w a)) (h58 : ∀ p, p < P.1 → gI W.1 58 0 p = f p) (hf : OrdI f P.1) : fn_251 W = some (nI (dsN P.1 P.2.1 (hdS P r (-1 : Int32)) w (fun a => plx f (bal r a) P.1)), W) := by
  have h3 := hM.1.2.2.1
  have key := lp_addQ (Y := W) (F := fun s => fn_251_L4 s.1 s.2.1 s.2.2) (f := fun a => cond (hdS P r (-1 : Int32) a) (w a * invA (plx f (bal r a) P.1) P.1) 0) (n := P.2.1) (r := fun v => (v, W)) (by omega) 0 0 (Nat.zero_le _) (fun a acc _ ha => by
    have ec := r_counts hM.1 ha
    rw [hM.2.1, hM.2.2] at ec
    simp only [fn_251_L4, hM.1.2.1]
    rw [iteI_le_f ha (by omega), ec, bd_t, bI_0]
    cases hdS P r (-1 : Int32) a with
    | false =>
      rw [cnd_f, nI_add]
      rfl
    | true => rw [cnd_t, cnd_t, ck_in (by omega) (by omega), r_249 hM.1 hM.2.1 hB ha h58 hf, bd_t, ix_nI (by omega), hM.1.2.2.2.2 a ha, hw a ha, pk_mul, nI_add, nI_add]) (fun a => by
    simp only [fn_251_L4, hM.1.2.1]
    rw [iteI_le_t (Nat.le_refl _) (by omega)])
  unfold fn_251
  rw [key]
  congr 3
  rw [Nat.zero_add, Nat.sub_zero]
  exact sumQ_cg (fun a _ => by rw [Nat.zero_add])
