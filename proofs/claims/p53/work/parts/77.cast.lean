/-! ballots as numbers; casting -/
theorem lp_sl {σ ρ : Type} {F : σ → Option (σ ⊕ ρ)} {n : Nat} {s s' : σ} (h : F s = some (.inl s')) : lp F (n + 1) s = lp F n s' := by
  conv => lhs; unfold lp
  rw [h]
theorem lp_sr {σ ρ : Type} {F : σ → Option (σ ⊕ ρ)} {n : Nat} {s : σ} {r : ρ} (h : F s = some (.inr r)) : lp F (n + 1) s = some r := by
  unfold lp
  rw [h]
theorem br_ge {ρ : Type} {a : Int32} {n : Nat} (hn : n < 2 ^ 31) {x y : ρ} : (if a < nI 0 then x else (if nI n ≤ a then x else y)) = cond (inb a n) y x := by
  rw [← br_lt hn]
  by_cases h1 : a < nI 0
  · rw [if_pos h1, if_pos h1]
  · rw [if_neg h1, if_neg h1]
    by_cases h2 : nI n ≤ a
    · rw [if_pos h2, if_neg (Int32.not_lt.mpr h2)]
    · rw [if_neg h2, if_pos (Int32.not_le.mp h2)]
def dig (x : Int32) : Int32 := x - x / nI 10 * nI 10
def bdS (C : Nat) : Nat → Int32 → Int32 → (Nat → Int32) → Bool × (Nat → Int32)
  | 0, rest, _, f => (decide (rest = nI 0), f)
  | p + 1, rest, seen, f => cond (inb (dig rest) C && !hasS seen (dig rest)) (bdS C p (rest / nI 10) (seen ||| (nI 1 <<< (dig rest &&& 31))) (upd f p (dig rest))) (false, f)
theorem add_m1 {p : Nat} : nI p + (-1 : Int32) = nI p - nI 1 := by
  rw [Int32.sub_eq_add_neg]
  rfl
theorem m1_lt : nI 0 - nI 1 < nI 0 := by decide
theorem p_nlt {p : Nat} (h : p < 2 ^ 31) : ¬ nI p < nI 0 := nI_nlt (Nat.zero_le _) h
theorem c_50lp {Y : Sm} {C : Nat} (hC : C ≤ 5) : ∀ (p : Nat), p ≤ 5 → ∀ (N : Nat), p < N → ∀ (rest seen : Int32) (f : Nat → Int32), exd (lp (fun s => fn_50_L15 (nI C) s.1 s.2.1 s.2.2.1 s.2.2.2) N (rest, seen, nI p - nI 1, sF Y 46 0 f)) (fun s9 => fn_50_J75 s9.1 s9.2) = some (bI (bdS C p rest seen f).1, sF Y 46 0 (bdS C p rest seen f).2) := by
  intro p
  induction p with
  | zero =>
    intro _ N hN rest seen f
    obtain ⟨N, rfl⟩ : ∃ M, N = M + 1 := ⟨N - 1, by omega⟩
    have e : (fun s : Int32 × Int32 × Int32 × Sm => fn_50_L15 (nI C) s.1 s.2.1 s.2.2.1 s.2.2.2) (rest, seen, nI 0 - nI 1, sF Y 46 0 f) = some (.inr (.inl (rest, sF Y 46 0 f))) := by
      simp only [fn_50_L15]
      rw [if_pos m1_lt]
    rw [lp_sr e, exd_l]
    unfold fn_50_J75 bdS
    by_cases h : rest = nI 0
    · rw [if_pos h, decide_eq_true h]; rfl
    · rw [if_neg h, decide_eq_false h]; rfl
  | succ p ih =>
    intro hp N hN rest seen f
    obtain ⟨N, rfl⟩ : ∃ M, N = M + 1 := ⟨N - 1, by omega⟩
    have e0 : nI (p + 1) - nI 1 = nI p := pk_sub (by omega)
    rw [e0]
    have ef : fn_50_L15 (nI C) rest seen (nI p) (sF Y 46 0 f) = cond (inb (dig rest) C) (if (seen &&& (nI 1 <<< (dig rest &&& 31))) = nI 0 then ck (inb (nI p) 5) <| wr (sI (sF Y 46 0 f) 46 0 (ix (nI p)) (dig rest)) fun Y8 => some (.inl (rest / nI 10, seen ||| (nI 1 <<< (dig rest &&& 31)), nI p + (-1 : Int32), Y8)) else some (.inr (.inr (nI 0, sF Y 46 0 f)))) (some (.inr (.inr (nI 0, sF Y 46 0 f)))) := by
      unfold fn_50_L15
      rw [if_neg (p_nlt (by omega))]
      exact br_ge (by omega)
    have eb : bdS C (p + 1) rest seen f = cond (inb (dig rest) C && !hasS seen (dig rest)) (bdS C p (rest / nI 10) (seen ||| (nI 1 <<< (dig rest &&& 31))) (upd f p (dig rest))) (false, f) := rfl
    rw [eb]
    cases hi : inb (dig rest) C with
    | false =>
      rw [hi, cnd_f] at ef
      rw [lp_sr (F := fun s => fn_50_L15 (nI C) s.1 s.2.1 s.2.2.1 s.2.2.2) (s := (rest, seen, nI p, sF Y 46 0 f)) ef, exd_r, Bool.false_and, cnd_f]
      rfl
    | true =>
      obtain ⟨k, hk, ek⟩ := inb_of hi (by omega)
      rw [hi, cnd_t, ek] at ef
      rw [ek]
      cases hs : hasS seen (nI k) with
      | true =>
        rw [if_neg (fun q => by rw [has_bit seen (by omega), (set_bit seen (by omega)).mp q] at hs; cases hs)] at ef
        rw [lp_sr (F := fun s => fn_50_L15 (nI C) s.1 s.2.1 s.2.2.1 s.2.2.2) (s := (rest, seen, nI p, sF Y 46 0 f)) ef, exd_r]
        rfl
      | false =>
        rw [if_pos ((set_bit seen (by omega)).mpr (by rw [← has_bit seen (by omega)]; exact hs)), ck_in (by omega) (by omega), ix_nI (by omega), wr_t, sI_s, add_m1] at ef
        rw [lp_sl (F := fun s => fn_50_L15 (nI C) s.1 s.2.1 s.2.2.1 s.2.2.2) (s := (rest, seen, nI p, sF Y 46 0 f)) ef]
        exact ih (by omega) N (by omega) _ _ _
theorem c_50 {Y : Sm} {C : Nat} (hC : C ≤ 5) (code : Int32) : fn_50 code (nI C) Y = some (bI (bdS C C code (nI 0) (gI Y.1 46 0)).1, sF Y 46 0 (bdS C C code (nI 0) (gI Y.1 46 0)).2) := by
  have e := c_50lp (Y := Y) hC C hC FU (FU_lt (by omega)) code (nI 0) (gI Y.1 46 0)
  rw [sF_self] at e
  unfold fn_50
  rw [iteI_lt_f hC (by omega)]
  exact e
/-! what a ballot's number tells -/
theorem has_or (s : Int32) : ∀ j k, j < 5 → k < 5 → hasS (s ||| (nI 1 <<< (nI k &&& 31))) (nI j) = (hasS s (nI j) || decide (j = k)) := fun j k hj hk => by
  rw [has_bit _ hj, has_bit _ hj]
  have e : (s ||| (nI 1 <<< (nI k &&& 31))).toBitVec = s.toBitVec ||| (nI 1 <<< (nI k &&& 31)).toBitVec := rfl
  rw [e, (bv_k k hk).1, BitVec.getLsbD_or, BitVec.getLsbD_twoPow]
  congr 1
  by_cases h : j = k
  · subst h
    simp
    omega
  · simp [h, Ne.symm h]
def vlN (g : Nat → Nat) : Nat → Nat
  | 0 => 0
  | p + 1 => 10 * vlN g p + g p
theorem vlN_cg {g g' : Nat → Nat} {p : Nat} (h : ∀ q, q < p → g q = g' q) : vlN g p = vlN g' p := by
  induction p with
  | zero => rfl
  | succ p ih =>
    unfold vlN
    rw [ih (fun q hq => h q (by omega)), h p (by omega)]
theorem dig_eq (x : Int32) : x = x / nI 10 * nI 10 + dig x := by
  unfold dig
  rw [Int32.sub_eq_add_neg, Int32.add_comm x, ← Int32.add_assoc, Int32.add_right_neg, Int32.zero_add]
theorem bd_ok {C : Nat} (hC : C ≤ 5) : ∀ (p : Nat) (rest seen : Int32) (f : Nat → Int32), (bdS C p rest seen f).1 = true → (∀ q, p ≤ q → (bdS C p rest seen f).2 q = f q) ∧ ∃ g : Nat → Nat, (∀ q, q < p → g q < C ∧ (bdS C p rest seen f).2 q = nI (g q) ∧ hasS seen (nI (g q)) = false) ∧ (∀ q q', q < p → q' < p → g q = g q' → q = q') ∧ rest = nI (vlN g p) := by
  intro p
  induction p with
  | zero =>
    intro rest seen f h
    have h : decide (rest = nI 0) = true := h
    exact ⟨fun q _ => rfl, fun _ => 0, fun q hq => absurd hq (Nat.not_lt_zero _), fun q q' hq => absurd hq (Nat.not_lt_zero _), of_decide_eq_true h⟩
  | succ p ih =>
    intro rest seen f h
    have eb : bdS C (p + 1) rest seen f = cond (inb (dig rest) C && !hasS seen (dig rest)) (bdS C p (rest / nI 10) (seen ||| (nI 1 <<< (dig rest &&& 31))) (upd f p (dig rest))) (false, f) := rfl
    rw [eb] at h ⊢
    cases hc : (inb (dig rest) C && !hasS seen (dig rest)) with
    | false =>
      rw [hc, cnd_f] at h
      cases h
    | true =>
      rw [hc, cnd_t] at h
      rw [cnd_t]
      obtain ⟨h1, g, h2, h4, h5⟩ := ih _ _ _ h
      obtain ⟨c1, c2⟩ := Bool.and_eq_true_iff.mp hc
      obtain ⟨k, hk, ek⟩ := inb_of c1 (by omega)
      rw [ek] at h1 h2 c2 ⊢
      have c2 : hasS seen (nI k) = false := by rw [Bool.not_eq_true'] at c2; exact c2
      have hne : ∀ q, q < p → g q ≠ k := fun q hq z => by
        have := (h2 q hq).2.2
        rw [has_or seen _ _ (by have := (h2 q hq).1; omega) (by omega), z, decide_eq_true rfl, Bool.or_true] at this
        cases this
      refine ⟨fun q hq => ?_, fun q => if q = p then k else g q, fun q hq => ?_, fun q q' hq hq' e => ?_, ?_⟩
      · rw [h1 q (by omega), upd_ne (by omega)]
      · show (if q = p then k else g q) < C ∧ _ = nI (if q = p then k else g q) ∧ hasS seen (nI (if q = p then k else g q)) = false
        by_cases d : q = p
        · rw [if_pos d, d, h1 p (by omega), upd_at]
          exact ⟨hk, rfl, c2⟩
        · rw [if_neg d]
          obtain ⟨a1, a2, a3⟩ := h2 q (by omega)
          refine ⟨a1, a2, ?_⟩
          rw [has_or seen _ _ (by omega) (by omega), Bool.or_eq_false_iff] at a3
          exact a3.1
      · have e : (if q = p then k else g q) = (if q' = p then k else g q') := e
        by_cases d : q = p
        · by_cases d' : q' = p
          · omega
          · rw [if_pos d, if_neg d'] at e
            exact absurd e.symm (hne q' (by omega))
        · by_cases d' : q' = p
          · rw [if_neg d, if_pos d'] at e
            exact absurd e (hne q (by omega))
          · rw [if_neg d, if_neg d'] at e
            exact h4 q q' (by omega) (by omega) e
      · have e1 := dig_eq rest
        rw [h5, ek, pk_mul, nI_add] at e1
        rw [e1]
        show _ = nI (10 * vlN (fun q => if q = p then k else g q) p + (if p = p then k else g p))
        rw [if_pos rfl, vlN_cg (g' := g) (fun q hq => if_neg (by omega)), Nat.mul_comm]
theorem bd_ind {C : Nat} : ∀ (p : Nat) (rest seen : Int32) (f f' : Nat → Int32), (bdS C p rest seen f).1 = (bdS C p rest seen f').1 ∧ ((bdS C p rest seen f).1 = true → ∀ q, (q < p ∨ f q = f' q) → (bdS C p rest seen f).2 q = (bdS C p rest seen f').2 q) := by
  intro p
  induction p with
  | zero => intro rest seen f f'; exact ⟨rfl, fun _ q hq => hq.elim (fun z => absurd z (Nat.not_lt_zero _)) id⟩
  | succ p ih =>
    intro rest seen f f'
    have eb : ∀ f, bdS C (p + 1) rest seen f = cond (inb (dig rest) C && !hasS seen (dig rest)) (bdS C p (rest / nI 10) (seen ||| (nI 1 <<< (dig rest &&& 31))) (upd f p (dig rest))) (false, f) := fun _ => rfl
    rw [eb f, eb f']
    cases (inb (dig rest) C && !hasS seen (dig rest)) with
    | false => exact ⟨rfl, fun h => by cases h⟩
    | true =>
      obtain ⟨i1, i2⟩ := ih (rest / nI 10) (seen ||| (nI 1 <<< (dig rest &&& 31))) (upd f p (dig rest)) (upd f' p (dig rest))
      refine ⟨i1, fun h q hq => i2 h q ?_⟩
      by_cases d : q = p
      · exact Or.inr (by rw [d, upd_at, upd_at])
      · rcases hq with hq | hq
        · exact Or.inl (by omega)
        · exact Or.inr (by rw [upd_ne d, upd_ne d]; exact hq)
/-- the ballot of a number -/
def isB (C : Nat) (code : Int32) : Bool := (bdS C C code (nI 0) (fun _ => nI 0)).1
def bRow (C : Nat) (code : Int32) : Nat → Int32 := (bdS C C code (nI 0) (fun _ => nI 0)).2
theorem bd_isB {C : Nat} {code : Int32} (f : Nat → Int32) : (bdS C C code (nI 0) f).1 = isB C code := (bd_ind C code (nI 0) f (fun _ => nI 0)).1
theorem bd_row {C : Nat} {code : Int32} {f : Nat → Int32} (h : isB C code = true) {q : Nat} (hq : q < C) : (bdS C C code (nI 0) f).2 q = bRow C code q := (bd_ind C code (nI 0) f (fun _ => nI 0)).2 (by rw [bd_isB]; exact h) q (Or.inl hq)
theorem isB_g {C : Nat} {code : Int32} (hC : C ≤ 5) (h : isB C code = true) : ∃ g : Nat → Nat, (∀ q, q < C → g q < C ∧ bRow C code q = nI (g q)) ∧ (∀ q q', q < C → q' < C → g q = g q' → q = q') ∧ code = nI (vlN g C) := by
  obtain ⟨_, g, h1, h2, h3⟩ := bd_ok hC C code (nI 0) (fun _ => nI 0) h
  exact ⟨g, fun q hq => ⟨(h1 q hq).1, (h1 q hq).2.1⟩, h2, h3⟩
theorem vlN_lt {g : Nat → Nat} {p : Nat} (h : ∀ q, q < p → g q < 10) : vlN g p < 10 ^ p := by
  induction p with
  | zero => exact Nat.one_pos
  | succ p ih =>
    unfold vlN
    have := ih (fun q hq => h q (by omega))
    have := h p (by omega)
    rw [Nat.pow_succ]
    omega
theorem isB_ord {C : Nat} {code : Int32} (hC : C ≤ 5) (h : isB C code = true) : OrdI (bRow C code) C := by
  obtain ⟨g, h1, h2, _⟩ := isB_g hC h
  refine ⟨fun k hk => ?_, fun p hp => ⟨g p, (h1 p hp).1, (h1 p hp).2⟩⟩
  obtain ⟨p, hp, e⟩ := surj_of_inj C g (fun q hq => (h1 q hq).1) (fun a b ha hb e => h2 a b ha hb e) k hk
  exact ⟨p, hp, by rw [(h1 p hp).2, e]⟩
theorem isB_pos {C : Nat} {code : Int32} (hC : C ≤ 5) (h : code < nI 0) : isB C code = false := by
  cases hb : isB C code with
  | false => rfl
  | true =>
    obtain ⟨g, h1, _, h3⟩ := isB_g hC hb
    have : vlN g C < 10 ^ C := vlN_lt (fun q hq => by have := (h1 q hq).1; omega)
    have h10 : 10 ^ C ≤ 10 ^ 5 := Nat.pow_le_pow_right (by omega) hC
    rw [h3] at h
    exact absurd h (p_nlt (by omega))
/-- a row behind a cast -/
def casS (P : Pm) (r : Nat → Int32) (a : Nat) (f : Nat → Int32) : Nat → Int32 := upd (upd (fun q => if 78 + 5 * a ≤ q ∧ q < 78 + 5 * a + P.1 then f (q - (78 + 5 * a)) else r q) (36 + a) (nI 0)) 3 (nI 1)
theorem casS_cg {P : Pm} {r f f' : Nat → Int32} {a : Nat} (h : ∀ p, p < P.1 → f p = f' p) : casS P r a f = casS P r a f' := by
  unfold casS
  congr 2
  funext q
  by_cases c : 78 + 5 * a ≤ q ∧ q < 78 + 5 * a + P.1
  · rw [if_pos c, if_pos c]; exact h _ (by omega)
  · rw [if_neg c, if_neg c]
theorem casS_o {P : Pm} {r f : Nat → Int32} {a q : Nat} (h3 : q ≠ 3) (h36 : q ≠ 36 + a) (hb : ¬ (78 + 5 * a ≤ q ∧ q < 78 + 5 * a + P.1)) : casS P r a f q = r q := by
  unfold casS
  rw [upd_ne h3, upd_ne h36, if_neg hb]
theorem casS_b {P : Pm} {r f : Nat → Int32} {a b p : Nat} (hC : P.1 ≤ 5) (hb : b < 8) (ha : a < 8) (hp : p < P.1) : bal (casS P r a f) b p = if b = a then f p else bal r b p := by
  unfold bal casS
  rw [upd_ne (by omega), upd_ne (by omega)]
  by_cases c : b = a
  · subst c
    rw [if_pos (by omega), if_pos rfl]
    congr 1
    omega
  · rw [if_neg (by omega), if_neg c]
theorem GR.cas {P : Pm} {r f : Nat → Int32} {t n m s a : Nat} (hd : P.1 ≤ 5 ∧ P.2.1 ≤ 8) (h : GR P r t n m s) (ha : a < P.2.1) (hf : OrdI f P.1) : GR P (casS P r a f) t n m s := by
  have e : ∀ q, q ≠ 3 → q ≠ 36 + a → ¬ (78 + 5 * a ≤ q ∧ q < 78 + 5 * a + P.1) → casS P r a f q = r q := fun q => casS_o
  have hA := h.2.2.2.2.2.2.2.2.2.1
  refine h.of (e _ (by omega) (by omega) (by omega)) (e _ (by omega) (by omega) (by omega)) (e _ (by omega) (by omega) (by omega)) (e _ (by omega) (by omega) (by omega)) (e _ (by omega) (by omega) (by omega)) (by rw [e 1 (by omega) (by omega) (by omega)]; exact h.2.2.1) (e _ (by omega) (by omega) (by omega)) (Or.inr (upd_at _ _ _)) (fun p _ => e _ (by omega) (by omega) (by omega)) (fun b hb => ?_) (fun j w _ _ => e _ (by omega) (by omega) (by omega)) (fun a' ha' => ?_) (fun k _ => e _ (by omega) (by omega) (by omega))
  · obtain ⟨b1, b2⟩ := h.2.2.2.2.2.2.1 b hb
    by_cases c : b = a
    · refine ⟨fun k hk => ?_, fun p hp => ?_⟩
      · obtain ⟨p, hp, q⟩ := hf.1 k hk
        exact ⟨p, hp, by rw [casS_b hd.1 (by omega) (by omega) hp, if_pos c]; exact q⟩
      · rw [casS_b hd.1 (by omega) (by omega) hp, if_pos c]; exact hf.2 p hp
    · refine ⟨fun k hk => ?_, fun p hp => ?_⟩
      · obtain ⟨p, hp, q⟩ := b1 k hk
        exact ⟨p, hp, by rw [casS_b hd.1 (by omega) (by omega) hp, if_neg c]; exact q⟩
      · rw [casS_b hd.1 (by omega) (by omega) hp, if_neg c]; exact b2 p hp
  · obtain ⟨c1, c2, c3⟩ := hA a' ha'
    rw [e (20 + a') (by omega) (by omega) (by omega), e (28 + a') (by omega) (by omega) (by omega)]
    refine ⟨c1, c2, ?_⟩
    by_cases c : a' = a
    · subst c
      refine ⟨0, by omega, ?_⟩
      unfold casS
      rw [upd_ne (by omega), upd_at]
    · rw [e (36 + a') (by omega) (by omega) (by omega)]; exact c3
/-- the class takes a ballot -/
theorem c_82 {Y : Sm} {n q m a t s : Nat} {P : Pm} {r f : Nat → Int32} (h3 : 0 < P.1 ∧ P.1 ≤ 5 ∧ 0 < P.2.1 ∧ P.2.1 ≤ 8) (hR : CR Y n P r q m) (hG : GR P r t q m s) (h2 : r 2 = nI a) (ha : a < P.2.1) (hf : ∀ p, p < P.1 → gI Y.1 46 0 p = f p) : ∃ Z, fn_82 n Y = some ((), Z) ∧ Fr (SS n) Y Z ∧ CR Z n P (casS P r a f) q m := by
  have e2 : gI Y.1 21 n 3 = nI a := (hR.a 2 (by omega)).trans h2
  generalize hA : sF Y 27 (8 * n + a) (va_cpy (gI Y.1 46 0) (gI Y.1 27 (8 * n + a)) 0 0 5) = A
  generalize hZ : sI (sI A 21 n 4 (nI 1)) 31 n a (nI 0) = Z
  have fA : Fr (SS n) Y A := by rw [← hA]; exact Fr.sF (Or.inr (Or.inr (Or.inr ⟨rfl, by omega, by omega⟩)))
  have fZ : Fr (SS n) A Z := by rw [← hZ]; exact (Fr.sI (Or.inr (Or.inl ⟨rfl, by decide⟩))).tr (Fr.sI (Or.inr (Or.inl ⟨rfl, by decide⟩)))
  have G : ∀ k i, k ≠ 27 → k ≠ 21 → k ≠ 31 → gI Z.1 k i = gI Y.1 k i := fun k i h1 h2 h3 => by rw [← hZ, gI_sIk h3, gI_sIk h2, ← hA, gI_sFk h1]
  have e : ∀ x, x ≠ 3 → x ≠ 36 + a → ¬ (78 + 5 * a ≤ x ∧ x < 78 + 5 * a + P.1) → casS P r a f x = r x := fun x => casS_o
  refine ⟨Z, ?_, fA.tr fZ, ?_, fun x hx => ?_, hR.q.cg (G _ _ (by omega) (by omega) (by omega)) (G _ _ (by omega) (by omega) (by omega)) (G _ _ (by omega) (by omega) (by omega)) (G _ _ (by omega) (by omega) (by omega)) (G _ _ (by omega) (by omega) (by omega)) (G _ _ (by omega) (by omega) (by omega)) (G _ _ (by omega) (by omega) (by omega)) (e 8 (by omega) (by omega) (by omega)) (e 9 (by omega) (by omega) (by omega)) (fun j w _ _ => e _ (by omega) (by omega) (by omega)), hR.k.cg (G _ _ (by omega) (by omega) (by omega)) (G _ _ (by omega) (by omega) (by omega)) (G _ _ (by omega) (by omega) (by omega)) (by rw [← hZ, ← hA]; rfl) (fun j _ => ⟨e _ (by omega) (by omega) (by omega), e _ (by omega) (by omega) (by omega), e _ (by omega) (by omega) (by omega), e _ (by omega) (by omega) (by omega)⟩), fun j hj => ?_, fun b p hb hp => ?_, hR.l.cg (G _ _ (by omega) (by omega) (by omega)) (G _ _ (by omega) (by omega) (by omega)) (fun x _ _ => e _ (by omega) (by omega) (by omega))⟩
  · unfold fn_82 fn_44_46_27
    rw [e2, ck_in (by omega) (by omega), ix_nI (by omega), wr_t, bd_t, sC_sF, hA, wr_t]
    have e3 : gI (sI A 21 n 4 (nI 1)).1 21 n 3 = nI a := by rw [gI_sIv, upd_ne (by omega), ← hA, gI_sFk (by omega)]; exact e2
    rw [e3, ck_in (by omega) (by omega), ix_nI (by omega), wr_t, hZ]
  · rw [fZ.1, fA.1]
    exact hR.p.cg (G _ _ (by omega) (by omega) (by omega)) (G _ _ (by omega) (by omega) (by omega)) (G _ _ (by omega) (by omega) (by omega))
  · rw [← hZ, gI_sIk (by omega), gI_sIv, ← hA, gI_sFk (by omega)]
    by_cases d : x = 3
    · rw [d, upd_at]
      unfold casS
      rw [upd_at]
    · rw [upd_ne (by omega), e x d (by omega) (by omega)]
      exact hR.a x hx
  · obtain ⟨q1, q2, q3, q4, q5, q6⟩ := hR.u j hj
    rw [G 29 _ (by omega) (by omega) (by omega), G 30 _ (by omega) (by omega) (by omega), G 34 _ (by omega) (by omega) (by omega), G 32 _ (by omega) (by omega) (by omega), G 33 _ (by omega) (by omega) (by omega), e (20 + j) (by omega) (by omega) (by omega), e (28 + j) (by omega) (by omega) (by omega), e (44 + j) (by omega) (by omega) (by omega), e (52 + j) (by omega) (by omega) (by omega), e (60 + j) (by omega) (by omega) (by omega)]
    refine ⟨q1, q2, ?_, q4, q5, q6⟩
    rw [← hZ, gI_sIv, gI_sIk (by omega), ← hA, gI_sFk (by omega)]
    by_cases d : j = a
    · subst d
      rw [upd_at]
      unfold casS
      rw [upd_ne (by omega), upd_at]
    · rw [upd_ne d, e _ (by omega) (by omega) (by omega)]
      exact q3
  · rw [casS_b h3.2.1 (by omega) (by omega) hp, ← hZ, gI_sIk (by omega), gI_sIk (by omega), ← hA]
    by_cases d : b = a
    · rw [d, gI_sFs, if_pos rfl, cp0 (by omega)]
      exact hf p hp
    · rw [gI_sFi (by omega), if_neg d]
      exact hR.b b p hb hp
theorem QC.f46 {Y : Sm} {f : Nat → Int32} : QC Y (sF Y 46 0 f) := ⟨fun _ _ => rfl, fun k i hk => ⟨by rw [gI_sFk (fun z => hk (Or.inl (by rw [z]; decide)))], rfl⟩⟩
theorem CcS.pre {Y Y1 Z : Sm} {P : Pm} {r' : Nat → Int32} {c u pos : Nat} {f : Nat → Int32} (e : Y1 = sF Y 46 0 f) (h : CcS Y1 Z P r' c u pos) : CcS Y Z P r' c u pos := by
  obtain ⟨⟨f1, f2, f3⟩, c1, c2, hs, hp⟩ := h
  subst e
  refine ⟨⟨f1, f2, fun k i hk => ⟨(f3 k i hk).1.trans ?_, (f3 k i hk).2⟩⟩, c1, c2, hs, ?_⟩
  · rw [gI_sFk (fun z => hk (Or.inl (by rw [z]; decide)))]
  · rw [gI_sFk (by omega)] at hp
    exact hp
