/-! votes, accounts and lines add up -/
theorem cnt_split {f : Nat → Nat} {q : Nat → Bool} {C : Nat} : ∀ n, (∀ j, j < n → f j < C) → sumQ (fun k => cntN (fun j => decide (f j = k) && q j) n) C = cntN q n
  | 0, _ => sumQ_0 C
  | n + 1, h => by
    have ih := cnt_split (q := q) n (fun j hj => h j (by omega))
    cases hq : q n with
    | false =>
      rw [cnt_f hq, ← ih]
      exact sumQ_cg (fun k _ => cnt_f (by rw [hq, Bool.and_false]))
    | true =>
      rw [cnt_t hq, ← ih]
      have e : ∀ k, k < C → cntN (fun j => decide (f j = k) && q j) (n + 1) = cntN (fun j => decide (f j = k) && q j) n + (if k = f n then 1 else 0) := fun k _ => by
        by_cases c : k = f n
        · rw [if_pos c]
          exact cnt_t (by rw [hq, decide_eq_true c.symm]; rfl)
        · rw [if_neg c]
          exact cnt_f (by rw [decide_eq_false (fun z => c z.symm)]; rfl)
      rw [sumQ_cg e, sumQ_add, sumQ_one, if_pos (h n (by omega))]
theorem cnt_all {p : Nat → Bool} : ∀ n, (∀ j, j < n → p j = true) → cntN p n = n
  | 0, _ => rfl
  | n + 1, h => by rw [cnt_t (h n (by omega)), cnt_all n (fun j hj => h j (by omega))]
theorem cnt_but {p : Nat → Bool} {i : Nat} : ∀ n, i < n → p i = false → (∀ j, j < n → j ≠ i → p j = true) → cntN p n = n - 1
  | 0, hi, _, _ => absurd hi (Nat.not_lt_zero i)
  | n + 1, hi, hp, h => by
    by_cases c : i = n
    · subst c
      rw [cnt_f hp, cnt_all i (fun j hj => h j (by omega) (by omega))]
      rfl
    · rw [cnt_t (h n (by omega) (fun z => c z.symm)), cnt_but n (by omega) hp (fun j hj hne => h j (by omega) hne)]
      omega
theorem cnt_full {p : Nat → Bool} {b n o : Nat} (hb : b < n) (hp : p b = false) (hc : cntN p n = n - 1) (ho : o < n) (hne : o ≠ b) : p o = true := by
  cases hq : p o with
  | true => rfl
  | false =>
    have h1 : cntN p n < cntN (fun j => !decide (j = b)) n := cntN_lt ho (fun j hj hpj => by
      rw [decide_eq_false (fun z => by rw [z, hp] at hpj; cases hpj)]
      rfl) hq (by rw [decide_eq_false hne]; rfl)
    have h2 := cnt_but (p := fun j => !decide (j = b)) (i := b) n hb (by rw [decide_eq_true rfl]; rfl) (fun j hj hj2 => by rw [decide_eq_false hj2]; rfl)
    omega
theorem ser_ne {r : Nat → Int32} {C A n s t i j : Nat} (h : RqG r C A n s t) (hs : s ≤ 9999) (hi : i < n) (hj : j < n) (e : rq r i 0 = rq r j 0) : i = j := by
  rcases Nat.lt_trichotomy i j with c | c | c
  · obtain ⟨x, hx, ex, hk⟩ := (h j hj).2.2.2.2.2
    obtain ⟨y, hy, ey⟩ := hk i c
    rw [ex, ey] at e
    have := (nI_eq (by omega) (by omega)).mp e
    omega
  · exact c
  · obtain ⟨x, hx, ex, hk⟩ := (h i hi).2.2.2.2.2
    obtain ⟨y, hy, ey⟩ := hk j c
    rw [ex, ey] at e
    have := (nI_eq (by omega) (by omega)).mp e
    omega
theorem wait_cnt {P : Pm} {r : Nat → Int32} {t n m s : Nat} (h : GR P r t n m s) : nI (cntN (waitS r) n) = if r 8 = (-1 : Int32) then r 9 else r 9 - nI 1 := by
  obtain ⟨⟨_, a9, _, _⟩, ⟨hn, _, hs⟩, _, _, _, _, _, b2, b3, _, _⟩ := h
  by_cases h8 : r 8 = (-1 : Int32)
  · rw [if_pos h8, a9, cnt_all n (fun j hj => ?_)]
    unfold waitS
    obtain ⟨x, hx, ex, _⟩ := (b2 j hj).2.2.2.2.2
    rw [h8, ex, decide_eq_false (nI_ne_m1 (by omega))]
    rfl
  · obtain ⟨i, hi, ei⟩ := b3.resolve_left h8
    rw [if_neg h8, a9, cnt_but (i := i) n hi (by unfold waitS; rw [decide_eq_true ei]; rfl) (fun j hj hne => ?_), show nI n - nI 1 = nI (n - 1) from nI_sb (by omega)]
    unfold waitS
    rw [decide_eq_false (fun e => hne (ser_ne b2 hs hj hi (e.trans ei.symm)))]
    rfl
theorem sum_ml {f : Nat → Nat} {T : Nat} : ∀ n, sumQ (fun a => f a * T) n = sumQ f n * T
  | 0 => (Nat.zero_mul T).symm
  | n + 1 => by
    show sumQ (fun a => f a * T) n + f n * T = (sumQ f n + f n) * T
    rw [sum_ml n, Nat.add_mul]
/-- the classes' waiting requests are all that wait; so are the askers' -/
theorem waits_k {P : Pm} {r : Nat → Int32} {t n m s : Nat} (h3 : P.1 ≤ 5) (h : GR P r t n m s) : sumQ (fun k => cntN (inLS r (nI k)) n) P.1 = cntN (waitS r) n := by
  have b2 := h.2.2.2.2.2.2.2.1
  have hx : ∀ j, ∃ k, j < n → k < P.1 ∧ rq r j 2 = nI k := fun j => by
    by_cases c : j < n
    · obtain ⟨k, hk⟩ := (b2 j c).2.1
      exact ⟨k, fun _ => hk⟩
    · exact ⟨0, fun z => absurd z c⟩
  obtain ⟨f, hf⟩ := Classical.axiomOfChoice hx
  rw [← cnt_split (q := waitS r) (C := P.1) n (fun j hj => (hf j hj).1)]
  refine sumQ_cg (fun k hk => cntN_cg (fun j hj => ?_))
  unfold inLS
  obtain ⟨g1, g2⟩ := hf j hj
  rw [g2]
  congr 1
  exact decide_eq_decide.mpr (nI_eq (by omega) (by omega))
theorem waits_a {P : Pm} {r : Nat → Int32} {t n m s : Nat} (h3 : P.2.1 ≤ 8) (h : GR P r t n m s) : sumQ (fun a => cntN (fun j => decide (rq r j 1 = nI a) && waitS r j) n) P.2.1 = cntN (waitS r) n := by
  have b2 := h.2.2.2.2.2.2.2.1
  have hx : ∀ j, ∃ k, j < n → k < P.2.1 ∧ rq r j 1 = nI k := fun j => by
    by_cases c : j < n
    · obtain ⟨k, hk⟩ := (b2 j c).1
      exact ⟨k, fun _ => hk⟩
    · exact ⟨0, fun z => absurd z c⟩
  obtain ⟨f, hf⟩ := Classical.axiomOfChoice hx
  rw [← cnt_split (q := waitS r) (C := P.2.1) n (fun j hj => (hf j hj).1)]
  refine sumQ_cg (fun k hk => cntN_cg (fun j hj => ?_))
  obtain ⟨g1, g2⟩ := hf j hj
  rw [g2]
  congr 1
  exact decide_eq_decide.mpr (nI_eq (by omega) (by omega))
theorem tri : ∀ C, C ≤ 5 → sumQ (fun p => C - 1 - p) C = C * (C - 1) / 2 := by decide
theorem plc_sum {P : Pm} {r : Nat → Int32} {a : Nat} (hC : P.1 ≤ 5) (hB : BalI r P.1 P.2.1) (ha : a < P.2.1) : sumQ (fun k => P.1 - 1 - plc P r a k) P.1 = P.1 * (P.1 - 1) / 2 := by
  obtain ⟨b, b1, b2, b3, b4⟩ := ord_i hC (show OrdI (bal r a) P.1 from hB a ha)
  rw [← tri P.1 hC]
  exact sumQ_perm (x := plc P r a) (y := b) ⟨fun p hp => b3 p hp, fun u hu => ⟨(b1 u hu).1, b4 u hu⟩⟩ (fun p => P.1 - 1 - p)
def wgt (P : Pm) (r : Nat → Int32) (w : Nat → Nat) (a : Nat) : Nat := if hdS P r (-1 : Int32) a = true then w a else 0
theorem pts_n {P : Pm} {r : Nat → Int32} {w : Nat → Nat} {k : Nat} (hB : BalI r P.1 P.2.1) (hw : ∀ a, a < P.2.1 → P.2.2.2 a = nI (w a)) (hk : k < P.1) : ∀ j, j ≤ P.2.1 → sumN (hdS P r (-1 : Int32)) (fun a => P.2.2.2 a * (nI (P.1 - 1) - nI (plc P r a k))) j = nI (sumQ (fun a => wgt P r w a * (P.1 - 1 - plc P r a k)) j)
  | 0, _ => rfl
  | j + 1, hj => by
    have ih := pts_n hB hw hk j (by omega)
    have hp := plc_lt (P := P) hB (show j < P.2.1 by omega) hk
    show _ = nI (sumQ (fun a => wgt P r w a * (P.1 - 1 - plc P r a k)) j + wgt P r w j * (P.1 - 1 - plc P r j k))
    cases hd : hdS P r (-1 : Int32) j with
    | false =>
      have : wgt P r w j = 0 := if_neg (by rw [hd]; decide)
      rw [sumN_f hd, ih, this, Nat.zero_mul, Nat.add_zero]
    | true =>
      have : wgt P r w j = w j := if_pos hd
      rw [sumN_t hd, ih, this, hw j (by omega), nI_sb (by omega), nI_ml, nI_add]
theorem pts_all {P : Pm} {r : Nat → Int32} {w : Nat → Nat} (hC : P.1 ≤ 5) (hB : BalI r P.1 P.2.1) : sumQ (fun k => sumQ (fun a => wgt P r w a * (P.1 - 1 - plc P r a k)) P.2.1) P.1 = sumQ (wgt P r w) P.2.1 * (P.1 * (P.1 - 1) / 2) := by
  rw [sumQ_comm, ← sum_ml]
  refine sumQ_cg (fun a ha => ?_)
  rw [← plc_sum hC hB ha]
  have e : (fun k => wgt P r w a * (P.1 - 1 - plc P r a k)) = fun k => (P.1 - 1 - plc P r a k) * wgt P r w a := funext fun k => Nat.mul_comm _ _
  show sumQ (fun k => wgt P r w a * (P.1 - 1 - plc P r a k)) P.1 = _
  rw [e, sum_ml, Nat.mul_comm]
theorem half {W C : Nat} (hC : 0 < C ∧ C ≤ 5) : W * C * (C - 1) / 2 = W * (C * (C - 1) / 2) := by
  have : C = 1 ∨ C = 2 ∨ C = 3 ∨ C = 4 ∨ C = 5 := by omega
  rcases this with rfl | rfl | rfl | rfl | rfl <;> omega
/-- who beats all is first by pairs -/
theorem champ {P : Pm} {r f : Nat → Int32} {b : Nat} (hN : PN P r) (hb : b < P.1) (ha : anyS P r (-1 : Int32) = true) (hw : winsS P r (-1 : Int32) b = P.1 - 1) (hf : OutOK P r (-1 : Int32) (nI 2) f) : f 0 = nI b := by
  obtain ⟨h3, hB, hW⟩ := hN
  have hsto := bet_sto P r (-1 : Int32) (nI 2)
  have hbb : beatS P r (-1 : Int32) b b = false := by
    unfold beatS
    rw [decide_eq_true rfl]
    rfl
  have h0 : rkS P r (-1 : Int32) (nI 2) b = 0 := cnt_0 (fun o ho => by
    cases hq : betS P r (-1 : Int32) (nI 2) o b with
    | false => rfl
    | true =>
      exfalso
      by_cases c : o = b
      · subst c
        rw [hsto.1 o hb] at hq
        cases hq
      · have h1 : beatS P r (-1 : Int32) b o = true := cnt_full hb hbb hw ho c
        have h2 : beatS P r (-1 : Int32) o b = false := by
          rw [← cmp_beat ⟨h3.2.1, h3.2.2.2⟩ hB hW ho hb]
          rcases Int32.le_total (sumN (prT P r (-1 : Int32) o b) P.2.2.2 P.2.1) (sumN (prT P r (-1 : Int32) b o) P.2.2.2 P.2.1) with q | q
          · exact q
          · rw [(cmp_beat ⟨h3.2.1, h3.2.2.2⟩ hB hW hb ho).mp q] at h1
            cases h1
        have hoo : beatS P r (-1 : Int32) o o = false := by
          unfold beatS
          rw [decide_eq_true rfl]
          rfl
        have h4 : winsS P r (-1 : Int32) o < P.1 - 1 := by
          have h5 : winsS P r (-1 : Int32) o < cntN (fun j => !decide (j = o)) P.1 := cntN_lt hb (fun j hj hpj => by
            rw [decide_eq_false (fun z => by rw [z, hoo] at hpj; cases hpj)]
            rfl) h2 (by rw [decide_eq_false (fun z => c z.symm)]; rfl)
          rw [cnt_but (p := fun j => !decide (j = o)) (i := o) P.1 ho (by rw [decide_eq_true rfl]; rfl) (fun j hj hj2 => by rw [decide_eq_false hj2]; rfl)] at h5
          exact h5
        rcases (bet2 (by decide)).mp hq with ⟨_, q | ⟨q, _⟩⟩ | ⟨q, _⟩
        · omega
        · omega
        · exact q rfl)
  have := hf.1 ha b hb
  rw [h0] at this
  exact this
/-- sets of classes -/
def orN (b : Nat → Nat) : Nat → Nat
  | 0 => 0
  | k + 1 => orN b k ||| 2 ^ b k
theorem orN_t (b : Nat → Nat) (i : Nat) : ∀ k, (orN b k).testBit i = true ↔ ∃ p, p < k ∧ b p = i
  | 0 => by
    constructor
    · intro h
      have : (0 : Nat).testBit i = true := h
      simp at this
    · rintro ⟨p, hp, _⟩
      omega
  | k + 1 => by
    show (orN b k ||| 2 ^ b k).testBit i = true ↔ _
    rw [Nat.testBit_or, Bool.or_eq_true, orN_t b i k, Nat.testBit_two_pow, decide_eq_true_eq]
    constructor
    · rintro (⟨p, hp, e⟩ | e)
      · exact ⟨p, by omega, e⟩
      · exact ⟨k, by omega, e⟩
    · rintro ⟨p, hp, e⟩
      by_cases c : p = k
      · right
        rw [← c]; exact e
      · exact Or.inl ⟨p, by omega, e⟩
theorem orN_all {b : Nat → Nat} {C : Nat} (h1 : ∀ p, p < C → b p < C) (h2 : ∀ k, k < C → ∃ p, p < C ∧ b p = k) : orN b C = 2 ^ C - 1 := by
  apply Nat.eq_of_testBit_eq
  intro i
  rw [Nat.testBit_two_pow_sub_one]
  by_cases c : i < C
  · rw [decide_eq_true c]
    exact (orN_t b i C).mpr (h2 i c)
  · rw [decide_eq_false c]
    cases hq : (orN b C).testBit i with
    | false => rfl
    | true =>
      obtain ⟨p, hp, e⟩ := (orN_t b i C).mp hq
      have := h1 p hp
      omega
theorem orN_lt {b : Nat → Nat} {C : Nat} (hC : C ≤ 5) : ∀ k, (∀ p, p < k → b p < C) → orN b k < 2 ^ 5
  | 0, _ => by
    show 0 < 2 ^ 5
    decide
  | k + 1, h => by
    refine Nat.or_lt_two_pow (orN_lt hC k (fun p hp => h p (by omega))) ?_
    exact Nat.pow_lt_pow_right (by omega) (by have := h k (by omega); omega)
theorem orN_cg {b c : Nat → Nat} : ∀ k, (∀ p, p < k → b p = c p) → orN b k = orN c k
  | 0, _ => rfl
  | k + 1, h => by
    show orN b k ||| 2 ^ b k = orN c k ||| 2 ^ c k
    rw [orN_cg k (fun p hp => h p (by omega)), h k (by omega)]
theorem sh1 : ∀ b, b < 6 → (1 : Int32) <<< (nI b &&& 31) = nI (2 ^ b) := by decide
