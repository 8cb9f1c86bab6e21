/-! what the methods' functions are made of, and how they are walked (printed by wip/whole/gen19.py) -/
def ck {α : Type} (b : Bool) (k : Option α) : Option α := cond b k none
theorem ck_some {α : Type} {b : Bool} {k : Option α} {r : α} (h : ck b k = some r) : b = true ∧ k = some r := by
  cases b with
  | false => cases h
  | true => exact ⟨rfl, h⟩
def bd {α ρ : Type} (m : Option (α × Sm)) (k : α → Sm → Option ρ) : Option ρ :=
  match m with
  | some q => k q.1 q.2
  | none => none
theorem bd_some {α ρ : Type} {m : Option (α × Sm)} {k : α → Sm → Option ρ} {r : ρ} (h : bd m k = some r) : ∃ v Z, m = some (v, Z) ∧ k v Z = some r := by
  match m, h with
  | some q, h => exact ⟨q.1, q.2, rfl, h⟩
def bx {α ρ : Type} (m : Option ((α ⊕ Nat) × Sm)) (kx : Nat → Sm → Option ρ) (k : α → Sm → Option ρ) : Option ρ :=
  match m with
  | some (.inl v, Z) => k v Z
  | some (.inr x, Z) => kx x Z
  | none => none
theorem bx_some {α ρ : Type} {m : Option ((α ⊕ Nat) × Sm)} {kx : Nat → Sm → Option ρ} {k : α → Sm → Option ρ} {r : ρ} (h : bx m kx k = some r) : ∃ o Z, m = some (o, Z) ∧ ((∃ v, o = .inl v ∧ k v Z = some r) ∨ (∃ x, o = .inr x ∧ kx x Z = some r)) := by
  match m, h with
  | some (.inl v, Z), h => exact ⟨.inl v, Z, rfl, Or.inl ⟨v, rfl, h⟩⟩
  | some (.inr x, Z), h => exact ⟨.inr x, Z, rfl, Or.inr ⟨x, rfl, h⟩⟩
def wr {α : Type} (Z : Sm) (k : Sm → Option α) : Option α := k Z
theorem wr_some {α : Type} {Z : Sm} {k : Sm → Option α} {r : α} (h : wr Z k = some r) : k Z = some r := h
def lp {σ ρ : Type} (F : σ → Option (σ ⊕ ρ)) : Nat → σ → Option ρ
  | 0, _ => none
  | n + 1, s => match F s with
    | some (.inl s') => lp F n s'
    | some (.inr r) => some r
    | none => none
def lpn {σ ρ : Type} (F : σ → Option (σ ⊕ ρ)) (n : Nat) (q : σ ⊕ ρ) (r : ρ) : Prop :=
  match q with
  | .inl s' => lp F n s' = some r
  | .inr r' => r' = r
theorem lp_succ {σ ρ : Type} {F : σ → Option (σ ⊕ ρ)} {n : Nat} {s : σ} {r : ρ} (h : lp F (n + 1) s = some r) : ∃ q, F s = some q ∧ lpn F n q r := by
  unfold lp at h
  split at h
  · next s' e => exact ⟨.inl s', e, h⟩
  · next r' e => exact ⟨.inr r', e, Option.some.inj h⟩
  · cases h
theorem lpn_r {σ ρ : Type} {F : σ → Option (σ ⊕ ρ)} {n : Nat} {r' r : ρ} (h : lpn F n (.inr r') r) : r' = r := h
theorem lpn_l {σ ρ : Type} {F : σ → Option (σ ⊕ ρ)} {n : Nat} {s' : σ} {r : ρ} (h : lpn F n (.inl s') r) : lp F n s' = some r := h
def exd {σ ρ : Type} (m : Option (σ ⊕ ρ)) (K : σ → Option ρ) : Option ρ :=
  match m with
  | some (.inl s) => K s
  | some (.inr r) => some r
  | none => none
def exn' {σ ρ : Type} (e : σ ⊕ ρ) (K : σ → Option ρ) (q : ρ) : Prop :=
  match e with
  | .inl s => K s = some q
  | .inr r => r = q
theorem exd_some {σ ρ : Type} {m : Option (σ ⊕ ρ)} {K : σ → Option ρ} {q : ρ} (h : exd m K = some q) : ∃ e, m = some e ∧ exn' e K q := by
  match m, h with
  | some (.inl s), h => exact ⟨.inl s, rfl, h⟩
  | some (.inr r), h => exact ⟨.inr r, rfl, Option.some.inj h⟩
def FU : Nat := 1000000
theorem if_t {α : Type} {c : Prop} [Decidable c] {A B : Option α} {q : α} (hc : c) (h : (if c then A else B) = some q) : A = some q := (if_pos hc).symm.trans h
theorem if_f {α : Type} {c : Prop} [Decidable c] {A B : Option α} {q : α} (hc : ¬ c) (h : (if c then A else B) = some q) : B = some q := (if_neg hc).symm.trans h
def sI (Y : Sm) (k i j : Nat) (v : Int32) : Sm := (uI Y.1 k i j v, Y.2)
def sJ (Y : Sm) (k i j : Nat) (v : Int64) : Sm := (uJ Y.1 k i j v, Y.2)
def sD (Y : Sm) (k i j : Nat) (v : UInt64) : Sm := (uD Y.1 k i j v, Y.2)
def sC (Y : Sm) (ks is sp kd id dp n : Nat) : Sm := (cI Y.1 ks is sp kd id dp n, Y.2)
def sD2 (Y : Sm) (ks is sp kd id dp n : Nat) : Sm := (cJ Y.1 ks is sp kd id dp n, Y.2)
def nz (x : Int32) : Bool := decide (¬ x = 0)
theorem nz_of {x : Int32} (h : nz x = true) : ¬ x = 0 := of_decide_eq_true h
def nn32 (r : UInt32) : Bool := decide (r &&& 0x7fffffff ≤ 0x7f800000)
theorem nn32_of {r : UInt32} (h : nn32 r = true) : vf_n32 r := of_decide_eq_true (p := r &&& 0x7fffffff ≤ 0x7f800000) h
def nn64 (r : UInt64) : Bool := decide (r &&& 0x7fffffffffffffff ≤ 0x7ff0000000000000)
theorem nn64_of {r : UInt64} (h : nn64 r = true) : vf_n64 r := of_decide_eq_true (p := r &&& 0x7fffffffffffffff ≤ 0x7ff0000000000000) h
theorem vin {j : Int32} {n : Nat} (h : inb j n = true) : vp_in j n := by
  unfold inb at h
  obtain ⟨h1, h2⟩ := Bool.and_eq_true_iff.mp h
  have h1 := of_decide_eq_true h1
  have h2 := of_decide_eq_true h2
  intro h3
  rcases h3 with h3 | h3
  · have := Int32.lt_iff_toInt_lt.mp h3
    simp at this
    omega
  · have e : j.toNatClampNeg = j.toInt.toNat := rfl
    omega
def cpok (sp dp n : Int32) (N M : Nat) : Bool := decide (¬ sp < 0) && (decide (¬ dp < 0) && (decide (¬ n < 0) && (decide (ix sp + ix n ≤ N) && decide (ix dp + ix n ≤ M))))
theorem cpokA {sp dp n : Int32} {N M : Nat} (h : cpok sp dp n N M = true) : ¬ sp < 0 ∧ ¬ dp < 0 ∧ ¬ n < 0 ∧ ix sp + ix n ≤ N ∧ ix dp + ix n ≤ M := by
  unfold cpok at h
  simp only [Bool.and_eq_true, decide_eq_true_eq] at h
  exact h
theorem cpok1 {sp dp n : Int32} {N M : Nat} (h : cpok sp dp n N M = true) : ¬ sp < 0 := (cpokA h).1
theorem cpok2 {sp dp n : Int32} {N M : Nat} (h : cpok sp dp n N M = true) : ¬ dp < 0 := (cpokA h).2.1
theorem cpok3 {sp dp n : Int32} {N M : Nat} (h : cpok sp dp n N M = true) : ¬ n < 0 := (cpokA h).2.2.1
theorem cpok4 {sp dp n : Int32} {N M : Nat} (h : cpok sp dp n N M = true) : ix sp + ix n ≤ N := (cpokA h).2.2.2.1
theorem cpok5 {sp dp n : Int32} {N M : Nat} (h : cpok sp dp n N M = true) : ix dp + ix n ≤ M := (cpokA h).2.2.2.2
theorem nbl (n : Nat) : Nat.ble n n = true := by
  induction n with
  | zero => rfl
  | succ n ih => exact ih
theorem al0 : allP [] := trivial
theorem al1 {p : Prop} (h : p) : allP [p] := h
theorem al2 {p q : Prop} {t : List Prop} (h : p) (h2 : allP (q :: t)) : allP (p :: q :: t) := ⟨h, h2⟩
theorem lq_n {ls : Lo} : ∀ q ∈ ([] : Lo), lget q.1 ls = some q.2 := fun _ h => nomatch h
theorem lq_c {ls t : Lo} {i : Nat} {v : Av} (h : lget i ls = some v) (h2 : ∀ q ∈ t, lget q.1 ls = some q.2) : ∀ q ∈ ((i, v) :: t), lget q.1 ls = some q.2 := fun q hq => by
  rcases List.mem_cons.mp hq with e | e
  · rw [e]; exact h
  · exact h2 q e
def Pz {α : Type} (f : α → Option Av) (o : α ⊕ Nat) (Z : Sm) : Option Av → Sm → Prop :=
  match o with
  | .inl v => Rt (f v) Z
  | .inr _ => nR
def Ez {α : Type} (o : α ⊕ Nat) (Z : Sm) : Nat → Sm → Prop :=
  match o with
  | .inl _ => nX
  | .inr x => Xt x Z
theorem Pz_l {α : Type} {f : α → Option Av} {v : α} {Z : Sm} : Pz f (.inl v) Z (f v) Z := ⟨rfl, rfl⟩
theorem Ez_r {α : Type} {x : Nat} {Z : Sm} : Ez (α := α) (.inr x) Z x Z := ⟨rfl, rfl⟩
theorem nsw_0 {x : Int32} {lo : Nat} : ∀ j, j < 0 → ¬ x = nI (lo + j) := fun _ h => absurd h (Nat.not_lt_zero _)
theorem nsw_s {x : Int32} {lo n : Nat} (h : ∀ j, j < n → ¬ x = nI (lo + j)) (c : ¬ x = nI (lo + n)) : ∀ j, j < n + 1 → ¬ x = nI (lo + j) := fun j hj => by
  rcases Nat.lt_succ_iff_lt_or_eq.mp hj with e | e
  · exact h j e
  · rw [e]; exact c
section W2
variable {d b y u pc : Nat} {ls : Lo} {st : List Av} {Y : Sm} {P : Option Av → Sm → Prop} {E : Nat → Sm → Prop}
theorem w_sg (K : ∀ p, chk y p = true) (n : Nat) {pc' : Nat} {ls' : Lo} {st' : List Av} {cs' : List Prop} (h : ∀ L, seg allw (zU Y.2 L u (6 * u)) y n pc ls st Y.1 [] = some (pc', ls', st', Y.1, cs')) (hc : allP cs') (k : Wm d b y u pc' ls' st' Y P E) (hr : (Nat.ble 4 d && (Nat.ble u b && Nat.ble (6 * u) (6 * b))) = true := by rfl) : Wm d b y u pc ls st Y P E :=
  fun L z0 X0 => v_seg K n (h L) hc (k L z0 X0) hr
theorem w_sw (K : ∀ p, chk y p = true) (n : Nat) {Z : Sm} {pc' : Nat} {ls' : Lo} {st' : List Av} {cs' : List Prop} (h : ∀ L, seg allw (zU Y.2 L u (6 * u)) y n pc ls st Y.1 [] = some (pc', ls', st', Z.1, cs')) (hg : Y.2 = Z.2) (hc : allP cs') (k : Wm d b y u pc' ls' st' Z P E) (hr : (Nat.ble 4 d && (Nat.ble u b && Nat.ble (6 * u) (6 * b))) = true := by rfl) : Wm d b y u pc ls st Y P E :=
  fun L z0 X0 => v_seg K n (h L) hc (by rw [hg]; exact k L z0 X0) hr
theorem w_cS1 (K : ∀ p, chk y p = true) {v9 : Int32} {a c np y' d' b' : Nat} {As stk : List Av} {v : Av} {Y' : Sm} {E' : Nat → Sm → Prop} (hC : Mt d' b' y' As Y (Rt (some v) Y') E') (ht : tb y pc = (80, v9, a, y', c, np)) (hs : stk = rapp As st) (kk : Wm d b y (u + b') np ls (v :: st) Y' P E) (kx : ∀ x Z, E' x Z → E x Z)
    (hr : (Nat.ble 4 d && (Nat.ble (u + b') b && Nat.ble (6 * u + 6 * b') (6 * b))) = true := by rfl) (hy' : Nat.ble y' 299 = true := by rfl) (hlen : As.length = npl.getD y' 0 := by rfl) (hd : Nat.ble (d' + 1) d = true := by rfl) (hst : Nat.ble st.length 4 = true := by rfl) : Wm d b y u pc ls stk Y P E := w_callS K hC ht hs kk kx hr hy' hlen hd hst
theorem w_cS0 (K : ∀ p, chk y p = true) {v9 : Int32} {a c np y' d' b' : Nat} {As stk : List Av} {Y' : Sm} {E' : Nat → Sm → Prop} (hC : Mt d' b' y' As Y (Rt none Y') E') (ht : tb y pc = (80, v9, a, y', c, np)) (hs : stk = rapp As st) (kk : Wm d b y (u + b') np ls st Y' P E) (kx : ∀ x Z, E' x Z → E x Z)
    (hr : (Nat.ble 4 d && (Nat.ble (u + b') b && Nat.ble (6 * u + 6 * b') (6 * b))) = true := by rfl) (hy' : Nat.ble y' 299 = true := by rfl) (hlen : As.length = npl.getD y' 0 := by rfl) (hd : Nat.ble (d' + 1) d = true := by rfl) (hst : Nat.ble st.length 4 = true := by rfl) : Wm d b y u pc ls stk Y P E := w_callS K hC ht hs kk kx hr hy' hlen hd hst
theorem w_cV1 (K : ∀ p, chk y p = true) {v9 : Int32} {a c np y' d' b' k9 i9 c9 n9 : Nat} {As stk : List Av} {v : Av} {Y' : Sm} {E' : Nat → Sm → Prop} (hC : Mt d' b' y' (aR k9 i9 :: As) Y (Rt (some v) Y') E') (ht : tb y pc = (81, v9, a, y', c, np)) (hs : stk = rapp (aR k9 i9 :: As) st) (kk : Wm d b y (u + b') np ls (v :: st) Y' P E) (kx : ∀ x Z, E' x Z → E x Z)
    (hr : (Nat.ble 4 d && (Nat.ble (u + b') b && Nat.ble (6 * u + 6 * b') (6 * b))) = true := by rfl) (hsh : shp k9 = (0, c9, n9) := by rfl) (hcl : (vck c9).1 = RN (cid y') := by rfl) (hc9 : Nat.ble (c9 + 1) vcl.length = true := by rfl) (hlen : As.length = npl.getD y' 0 := by rfl) (hd : Nat.ble (d' + 1) d = true := by rfl) (hst : Nat.ble st.length 4 = true := by rfl) : Wm d b y u pc ls stk Y P E := w_callV K hC ht hs kk kx hr hsh hcl hc9 hlen hd hst
theorem w_cV0 (K : ∀ p, chk y p = true) {v9 : Int32} {a c np y' d' b' k9 i9 c9 n9 : Nat} {As stk : List Av} {Y' : Sm} {E' : Nat → Sm → Prop} (hC : Mt d' b' y' (aR k9 i9 :: As) Y (Rt none Y') E') (ht : tb y pc = (81, v9, a, y', c, np)) (hs : stk = rapp (aR k9 i9 :: As) st) (kk : Wm d b y (u + b') np ls st Y' P E) (kx : ∀ x Z, E' x Z → E x Z)
    (hr : (Nat.ble 4 d && (Nat.ble (u + b') b && Nat.ble (6 * u + 6 * b') (6 * b))) = true := by rfl) (hsh : shp k9 = (0, c9, n9) := by rfl) (hcl : (vck c9).1 = RN (cid y') := by rfl) (hc9 : Nat.ble (c9 + 1) vcl.length = true := by rfl) (hlen : As.length = npl.getD y' 0 := by rfl) (hd : Nat.ble (d' + 1) d = true := by rfl) (hst : Nat.ble st.length 4 = true := by rfl) : Wm d b y u pc ls stk Y P E := w_callV K hC ht hs kk kx hr hsh hcl hc9 hlen hd hst
theorem w_swAt (K : ∀ p, chk y p = true) (j : Nat) {x : Int32} {v : Int32} {a b9 c np len df lo t : Nat} {ts : List Nat} (ht : tb y pc = (66, v, a, b9, c, np)) (hs : swl.getD a (0, 0, 0, []) = (len, df, lo, ts)) (hb : Nat.ble (lo + ts.length) 1000 = true) (hj : ts[j]? = some t) (hx : x = nI (lo + j)) (k : Wm d b y u t ls st Y P E) : Wm d b y u pc ls (aI x :: st) Y P E := by
  rw [hx]
  exact w_swIn K j ht hs hb hj k
end W2
