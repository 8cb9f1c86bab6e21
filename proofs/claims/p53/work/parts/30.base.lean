/-! the memory by rows; results of functions; loops -/
def sF (Y : Sm) (k i : Nat) (f : Nat → Int32) : Sm := ((fun a b c => if a = k ∧ b = i then f c else Y.1.1 a b c, Y.1.2), Y.2)
theorem gI_sF (Y : Sm) (k i : Nat) (f : Nat → Int32) (k' i' : Nat) : gI (sF Y k i f).1 k' i' = if k' = k ∧ i' = i then f else gI Y.1 k' i' := by
  funext j
  show (if k' = k ∧ i' = i then f j else Y.1.1 k' i' j) = _
  by_cases h : k' = k ∧ i' = i
  · rw [if_pos h, if_pos h]
  · rw [if_neg h, if_neg h]; rfl
theorem gI_sFs (Y : Sm) (k i : Nat) (f : Nat → Int32) : gI (sF Y k i f).1 k i = f := by
  rw [gI_sF, if_pos ⟨rfl, rfl⟩]
theorem gJ_sF (Y : Sm) (k i : Nat) (f : Nat → Int32) : gJ (sF Y k i f).1 = gJ Y.1 := rfl
theorem g_sF (Y : Sm) (k i : Nat) (f : Nat → Int32) : (sF Y k i f).2 = Y.2 := rfl
theorem gI_sI (Y : Sm) (k i j : Nat) (v : Int32) (k' i' j' : Nat) : gI (sI Y k i j v).1 k' i' j' = if k' = k ∧ i' = i ∧ j' = j then v else gI Y.1 k' i' j' := rfl
theorem gJ_sI (Y : Sm) (k i j : Nat) (v : Int32) : gJ (sI Y k i j v).1 = gJ Y.1 := rfl
theorem g_sI (Y : Sm) (k i j : Nat) (v : Int32) : (sI Y k i j v).2 = Y.2 := rfl
theorem gI_sJ (Y : Sm) (k i j : Nat) (v : Int64) : gI (sJ Y k i j v).1 = gI Y.1 := rfl
theorem gJ_sJ (Y : Sm) (k i j : Nat) (v : Int64) (k' i' j' : Nat) : gJ (sJ Y k i j v).1 k' i' j' = if k' = k ∧ i' = i ∧ j' = j then v else gJ Y.1 k' i' j' := rfl
theorem g_sJ (Y : Sm) (k i j : Nat) (v : Int64) : (sJ Y k i j v).2 = Y.2 := rfl
theorem gI_sG (Y : Sm) (a v : Nat) : gI (sG Y a v).1 = gI Y.1 := rfl
theorem gJ_sG (Y : Sm) (a v : Nat) : gJ (sG Y a v).1 = gJ Y.1 := rfl
theorem g_sG (Y : Sm) (a v : Nat) : (sG Y a v).2 = ug Y.2 a v := rfl
theorem gI_sC (Y : Sm) (ks is sp kd id dp n k' i' : Nat) : gI (sC Y ks is sp kd id dp n).1 k' i' = if k' = kd ∧ i' = id then va_cpy (gI Y.1 ks is) (gI Y.1 kd id) sp dp n else gI Y.1 k' i' := by
  funext j
  show (if k' = kd ∧ i' = id then va_cpy (Y.1.1 ks is) (Y.1.1 kd id) sp dp n j else Y.1.1 k' i' j) = _
  by_cases h : k' = kd ∧ i' = id
  · rw [if_pos h, if_pos h]; rfl
  · rw [if_neg h, if_neg h]; rfl
theorem gJ_sC (Y : Sm) (ks is sp kd id dp n : Nat) : gJ (sC Y ks is sp kd id dp n).1 = gJ Y.1 := rfl
theorem g_sC (Y : Sm) (ks is sp kd id dp n : Nat) : (sC Y ks is sp kd id dp n).2 = Y.2 := rfl
theorem gJ_sD2 (Y : Sm) (ks is sp kd id dp n k' i' : Nat) : gJ (sD2 Y ks is sp kd id dp n).1 k' i' = if k' = kd ∧ i' = id then va_cpy (gJ Y.1 ks is) (gJ Y.1 kd id) sp dp n else gJ Y.1 k' i' := by
  funext j
  show (if k' = kd ∧ i' = id then va_cpy (Y.1.2.1 ks is) (Y.1.2.1 kd id) sp dp n j else Y.1.2.1 k' i' j) = _
  by_cases h : k' = kd ∧ i' = id
  · rw [if_pos h, if_pos h]; rfl
  · rw [if_neg h, if_neg h]; rfl
theorem gI_sD2 (Y : Sm) (ks is sp kd id dp n : Nat) : gI (sD2 Y ks is sp kd id dp n).1 = gI Y.1 := rfl
theorem g_sD2 (Y : Sm) (ks is sp kd id dp n : Nat) : (sD2 Y ks is sp kd id dp n).2 = Y.2 := rfl
theorem sI_sF (Y : Sm) (k i j : Nat) (v : Int32) : sI Y k i j v = sF Y k i (upd (gI Y.1 k i) j v) := by
  have h : (fun a b c => if a = k ∧ b = i ∧ c = j then v else Y.1.1 a b c) = (fun a b c => if a = k ∧ b = i then upd (gI Y.1 k i) j v c else Y.1.1 a b c) := by
    funext a b c
    by_cases h1 : a = k ∧ b = i
    · obtain ⟨rfl, rfl⟩ := h1
      by_cases h2 : c = j
      · simp [h2, upd]
      · simp [h2, upd, gI]
    · have h2 : ¬ (a = k ∧ b = i ∧ c = j) := fun q => h1 ⟨q.1, q.2.1⟩
      rw [if_neg h1, if_neg h2]
  show ((_, Y.1.2), Y.2) = ((_, Y.1.2), Y.2)
  rw [h]
theorem sF_sF (Y : Sm) (k i : Nat) (f f' : Nat → Int32) : sF (sF Y k i f) k i f' = sF Y k i f' := by
  have h : (fun a b c => if a = k ∧ b = i then f' c else (if a = k ∧ b = i then f c else Y.1.1 a b c)) = (fun a b c => if a = k ∧ b = i then f' c else Y.1.1 a b c) := by
    funext a b c
    by_cases h1 : a = k ∧ b = i
    · rw [if_pos h1, if_pos h1]
    · rw [if_neg h1, if_neg h1, if_neg h1]
  show ((fun a b c => if a = k ∧ b = i then f' c else (if a = k ∧ b = i then f c else Y.1.1 a b c), Y.1.2), Y.2) = ((_, Y.1.2), Y.2)
  rw [h]
theorem sF_self (Y : Sm) (k i : Nat) : sF Y k i (gI Y.1 k i) = Y := by
  have h : (fun a b c => if a = k ∧ b = i then gI Y.1 k i c else Y.1.1 a b c) = Y.1.1 := by
    funext a b c
    by_cases h1 : a = k ∧ b = i
    · obtain ⟨rfl, rfl⟩ := h1; simp [gI]
    · rw [if_neg h1]
  show ((_, Y.1.2), Y.2) = Y
  rw [h]
/-- what may have changed -/
def Fr (S : Nat → Nat → Prop) (Y Z : Sm) : Prop := Z.2 = Y.2 ∧ ∀ k i, ¬ S k i → gI Z.1 k i = gI Y.1 k i ∧ gJ Z.1 k i = gJ Y.1 k i
theorem Fr.rf {S : Nat → Nat → Prop} {Y : Sm} : Fr S Y Y := ⟨rfl, fun _ _ _ => ⟨rfl, rfl⟩⟩
theorem Fr.tr {S : Nat → Nat → Prop} {Y Z W : Sm} (h : Fr S Y Z) (h2 : Fr S Z W) : Fr S Y W := ⟨h2.1.trans h.1, fun k i hn => ⟨(h2.2 k i hn).1.trans (h.2 k i hn).1, (h2.2 k i hn).2.trans (h.2 k i hn).2⟩⟩
theorem Fr.up {S S' : Nat → Nat → Prop} {Y Z : Sm} (h : Fr S Y Z) (hs : ∀ k i, S k i → S' k i) : Fr S' Y Z := ⟨h.1, fun k i hn => h.2 k i (fun q => hn (hs k i q))⟩
theorem Fr.sI {S : Nat → Nat → Prop} {Y : Sm} {k i j : Nat} {v : Int32} (h : S k i) : Fr S Y (sI Y k i j v) := ⟨rfl, fun k' i' hn => ⟨by rw [sI_sF, gI_sF, if_neg (fun q => hn (by rw [q.1, q.2]; exact h))], rfl⟩⟩
theorem Fr.sJ {S : Nat → Nat → Prop} {Y : Sm} {k i j : Nat} {v : Int64} (h : S k i) : Fr S Y (sJ Y k i j v) := ⟨rfl, fun k' i' hn => ⟨rfl, by
  funext q
  rw [gJ_sJ, if_neg (fun q => hn (by rw [q.1, q.2.1]; exact h))]⟩⟩
theorem Fr.sF {S : Nat → Nat → Prop} {Y : Sm} {k i : Nat} {f : Nat → Int32} (h : S k i) : Fr S Y (sF Y k i f) := ⟨rfl, fun k' i' hn => ⟨by rw [gI_sF, if_neg (fun q => hn (by rw [q.1, q.2]; exact h))], rfl⟩⟩
/-- a function's result -/
def Ok {ρ : Type} (m : Option ρ) (Q : ρ → Prop) : Prop := ∃ r, m = some r ∧ Q r
theorem Ok_some {ρ : Type} {r : ρ} {Q : ρ → Prop} (h : Q r) : Ok (some r) Q := ⟨r, rfl, h⟩
theorem Ok_eq {ρ : Type} {m : Option ρ} {r : ρ} {Q : ρ → Prop} (e : m = some r) (h : Q r) : Ok m Q := ⟨r, e, h⟩
theorem Ok.mono {ρ : Type} {m : Option ρ} {Q Q' : ρ → Prop} (h : Ok m Q) (hq : ∀ r, Q r → Q' r) : Ok m Q' := by
  obtain ⟨r, e, q⟩ := h
  exact ⟨r, e, hq r q⟩
theorem Ok_ck {ρ : Type} {b : Bool} {k : Option ρ} {Q : ρ → Prop} (hb : b = true) (h : Ok k Q) : Ok (ck b k) Q := by
  rw [hb]; exact h
theorem Ok_wr {ρ : Type} {Z : Sm} {k : Sm → Option ρ} {Q : ρ → Prop} (h : Ok (k Z) Q) : Ok (wr Z k) Q := h
theorem Ok_bd {α ρ : Type} {m : Option (α × Sm)} {k : α → Sm → Option ρ} {Q : ρ → Prop} {R : α × Sm → Prop} (h : Ok m R) (hk : ∀ v Z, R (v, Z) → Ok (k v Z) Q) : Ok (bd m k) Q := by
  obtain ⟨⟨v, Z⟩, e, q⟩ := h
  rw [e]
  exact hk v Z q
theorem Ok_bd' {α ρ : Type} {m : Option (α × Sm)} {k : α → Sm → Option ρ} {Q : ρ → Prop} {v : α} {Z : Sm} (e : m = some (v, Z)) (hk : Ok (k v Z) Q) : Ok (bd m k) Q := by
  rw [e]
  exact hk
theorem Ok_if {ρ : Type} {c : Prop} [Decidable c] {A B : Option ρ} {Q : ρ → Prop} (h1 : c → Ok A Q) (h2 : ¬ c → Ok B Q) : Ok (if c then A else B) Q := by
  by_cases h : c
  · rw [if_pos h]; exact h1 h
  · rw [if_neg h]; exact h2 h
theorem ck_t {ρ : Type} {b : Bool} {k : Option ρ} (hb : b = true) : ck b k = k := by rw [hb]; rfl
theorem bd_t {α ρ : Type} {v : α} {Z : Sm} {k : α → Sm → Option ρ} : bd (some (v, Z)) k = k v Z := by
  have h : ∀ m, m = some (v, Z) → bd m k = k v Z := fun m e => by rw [e]; rfl
  exact h _ rfl
theorem bd_e {α ρ : Type} {m : Option (α × Sm)} {v : α} {Z : Sm} {k : α → Sm → Option ρ} (e : m = some (v, Z)) : bd m k = k v Z := by rw [e]; rfl
theorem wr_t {ρ : Type} {Z : Sm} {k : Sm → Option ρ} : wr Z k = k Z := by
  have h : ∀ Z', Z' = Z → wr Z' k = k Z := fun Z' e => by rw [e]; rfl
  exact h Z rfl
def QL {σ ρ : Type} (I : σ → Prop) (Q : ρ → Prop) : σ ⊕ ρ → Prop
  | .inl s => I s
  | .inr r => Q r
theorem Ok_lp {σ ρ : Type} {F : σ → Option (σ ⊕ ρ)} {Q : ρ → Prop} (I : Nat → σ → Prop) (n : Nat) {N : Nat} (hN : n < N) (hs : ∀ j s, j < n → I j s → Ok (F s) (QL (I (j + 1)) Q)) (he : ∀ s, I n s → Ok (F s) (QL (fun _ => False) Q)) {s : σ} (h0 : I 0 s) : Ok (lp F N s) Q := by
  have key : ∀ (k j N : Nat) (s : σ), j + k = n → k < N → I j s → Ok (lp F N s) Q := by
    intro k
    induction k with
    | zero =>
      intro j N s hj hN h
      obtain ⟨N, rfl⟩ := Nat.exists_eq_add_of_lt hN
      have hj : j = n := by omega
      subst hj
      obtain ⟨r, e, q⟩ := he s h
      match r, e, q with
      | .inr r, e, q =>
        refine ⟨r, ?_, q⟩
        rw [show 0 + N + 1 = N + 1 by omega]
        unfold lp
        rw [e]
    | succ k ih =>
      intro j N s hj hN h
      match N, hN with
      | N + 1, hN =>
        obtain ⟨r, e, q⟩ := hs j s (by omega) h
        match r, e, q with
        | .inl s', e, q =>
          have := ih (j + 1) N s' (by omega) (by omega) q
          unfold lp
          rw [e]
          exact this
        | .inr r, e, q =>
          refine ⟨r, ?_, q⟩
          unfold lp
          rw [e]
  exact key n 0 N s (by omega) hN h0
theorem lp_run {σ ρ : Type} {F : σ → Option (σ ⊕ ρ)} {r : ρ} (S : Nat → σ) (n : Nat) {N : Nat} (hN : n < N) (hs : ∀ j, j < n → F (S j) = some (.inl (S (j + 1)))) (he : F (S n) = some (.inr r)) {s : σ} (h0 : s = S 0) : lp F N s = some r := by
  obtain ⟨r', e, q⟩ := Ok_lp (F := F) (Q := fun x => x = r) (fun j s => s = S j) n hN (fun j s hj h => ⟨.inl (S (j + 1)), by subst h; exact hs j hj, by show S (j + 1) = S (j + 1); rfl⟩) (fun s h => ⟨.inr r, by subst h; exact he, by show r = r; rfl⟩) h0
  rw [e, q]
theorem FU_lt {n : Nat} (h : n < 1000000) : n < FU := h
/-- the first place with p, n if none -/
def srch (p : Nat → Bool) : Nat → Nat
  | 0 => 0
  | n + 1 => cond (p 0) 0 (srch (fun j => p (j + 1)) n + 1)
theorem srch_le (p : Nat → Bool) (n : Nat) : srch p n ≤ n := by
  induction n generalizing p with
  | zero => exact Nat.le_refl _
  | succ n ih =>
    unfold srch
    cases p 0 with
    | true => exact Nat.zero_le _
    | false => exact Nat.succ_le_succ (ih _)
theorem srch_no {p : Nat → Bool} {n j : Nat} (h : j < srch p n) : p j = false := by
  induction n generalizing p j with
  | zero => exact absurd h (Nat.not_lt_zero _)
  | succ n ih =>
    unfold srch at h
    cases hp : p 0 with
    | true => rw [hp] at h; exact absurd h (Nat.not_lt_zero _)
    | false =>
      rw [hp] at h
      match j with
      | 0 => exact hp
      | j + 1 => exact ih (p := fun j => p (j + 1)) (Nat.lt_of_succ_lt_succ h)
theorem srch_yes {p : Nat → Bool} {n : Nat} (h : srch p n < n) : p (srch p n) = true := by
  induction n generalizing p with
  | zero => exact absurd h (Nat.not_lt_zero _)
  | succ n ih =>
    unfold srch at h ⊢
    cases hp : p 0 with
    | true => rw [hp] at h; exact hp
    | false =>
      rw [hp] at h
      exact ih (p := fun j => p (j + 1)) (Nat.lt_of_succ_lt_succ h)
theorem srch_eq {p : Nat → Bool} {n m : Nat} (hm : m < n) (h1 : p m = true) (h0 : ∀ j, j < m → p j = false) : srch p n = m := by
  rcases Nat.lt_trichotomy (srch p n) m with h | h | h
  · have := srch_yes (p := p) (n := n) (by omega)
    rw [h0 _ h] at this
    cases this
  · exact h
  · rw [srch_no h] at h1
    cases h1
theorem srch_none {p : Nat → Bool} {n : Nat} (h0 : ∀ j, j < n → p j = false) : srch p n = n := by
  rcases Nat.lt_or_ge (srch p n) n with h | h
  · have := srch_yes h
    rw [h0 _ h] at this
    cases this
  · exact Nat.le_antisymm (srch_le p n) h
theorem srch_cg {p q : Nat → Bool} {n : Nat} (h : ∀ j, j < n → p j = q j) : srch p n = srch q n := by
  induction n generalizing p q with
  | zero => rfl
  | succ n ih =>
    unfold srch
    rw [h 0 (by omega), ih (fun j hj => h (j + 1) (by omega))]
theorem lp_srch {ρ : Type} {F : Int32 × Sm → Option ((Int32 × Sm) ⊕ ρ)} {Y : Sm} (p : Nat → Bool) (n : Nat) (g : Nat → ρ) (hn : n < 1000000) (h1 : ∀ j, j < n → p j = false → F (nI j, Y) = some (.inl (nI (j + 1), Y))) (h2 : ∀ j, j < n → p j = true → F (nI j, Y) = some (.inr (g j))) (h3 : F (nI n, Y) = some (.inr (g n))) : lp F FU (nI 0, Y) = some (g (srch p n)) := by
  refine lp_run (fun j => (nI j, Y)) (srch p n) (FU_lt (Nat.lt_of_le_of_lt (srch_le p n) hn)) (fun j hj => h1 j (Nat.lt_of_lt_of_le hj (srch_le p n)) (srch_no hj)) ?_ rfl
  rcases Nat.lt_or_ge (srch p n) n with h | h
  · exact h2 _ h (srch_yes h)
  · rw [Nat.le_antisymm (srch_le p n) h]; exact h3
theorem lp_acc {ρ : Type} {α : Type} {F : α × Int32 × Sm → Option ((α × Int32 × Sm) ⊕ ρ)} {Y : Sm} (a : Nat → α) (n : Nat) {r : ρ} (hn : n < 1000000) (h1 : ∀ j, j < n → F (a j, nI j, Y) = some (.inl (a (j + 1), nI (j + 1), Y))) (h3 : F (a n, nI n, Y) = some (.inr r)) : lp F FU (a 0, nI 0, Y) = some r :=
  lp_run (fun j => (a j, nI j, Y)) n (FU_lt hn) h1 h3 rfl
/-- sums and numbers over those with p -/
def sumN (p : Nat → Bool) (g : Nat → Int32) : Nat → Int32
  | 0 => nI 0
  | n + 1 => cond (p n) (sumN p g n + g n) (sumN p g n)
def cntN (p : Nat → Bool) : Nat → Nat
  | 0 => 0
  | n + 1 => cond (p n) (cntN p n + 1) (cntN p n)
theorem cntN_le (p : Nat → Bool) (n : Nat) : cntN p n ≤ n := by
  induction n with
  | zero => exact Nat.le_refl _
  | succ n ih =>
    unfold cntN
    cases p n with
    | true => exact Nat.succ_le_succ ih
    | false => exact Nat.le_succ_of_le ih
theorem cntN_cg {p q : Nat → Bool} {n : Nat} (h : ∀ j, j < n → p j = q j) : cntN p n = cntN q n := by
  induction n with
  | zero => rfl
  | succ n ih =>
    unfold cntN
    rw [h n (by omega), ih (fun j hj => h j (by omega))]
theorem sumN_cg {p q : Nat → Bool} {g g' : Nat → Int32} {n : Nat} (h : ∀ j, j < n → p j = q j) (hg : ∀ j, j < n → p j = true → g j = g' j) : sumN p g n = sumN q g' n := by
  induction n with
  | zero => rfl
  | succ n ih =>
    unfold sumN
    have e := ih (fun j hj => h j (by omega)) (fun j hj => hg j (by omega))
    rw [h n (by omega)] at *
    cases hq : q n with
    | true =>
      have e2 := hg n (by omega) (by rw [h n (by omega)]; exact hq)
      rw [e, e2]
    | false => exact e
/-- ints -/
theorem inb_nI {j n : Nat} (h : j < n) (hn : n < 2 ^ 31) : inb (nI j) n = true := by
  unfold inb
  rw [nI_toInt (by omega)]
  simp
  exact h
theorem ix_nI {j : Nat} (h : j < 2 ^ 31) : ix (nI j) = j := nI_clamp h
theorem inb_of {x : Int32} {n : Nat} (h : inb x n = true) (hn : n < 2 ^ 31) : ∃ j, j < n ∧ x = nI j := vp_in_of (vin h) hn
theorem nI_ne_m1 {j : Nat} (h : j < 2 ^ 31) : ¬ nI j = (-1 : Int32) := by
  intro e
  have e2 := congrArg Int32.toInt e
  rw [nI_toInt h] at e2
  have : (-1 : Int32).toInt = -1 := by decide
  omega
theorem m1_ne_nI {j : Nat} (h : j < 2 ^ 31) : ¬ (-1 : Int32) = nI j := fun e => nI_ne_m1 h e.symm
theorem upd_at (f : Nat → Int32) (j : Nat) (v : Int32) : upd f j v j = v := by simp [upd]
theorem upd_ne {f : Nat → Int32} {j q : Nat} {v : Int32} (h : q ≠ j) : upd f j v q = f q := by simp [upd, h]

