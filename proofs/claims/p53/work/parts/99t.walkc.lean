/-! the walk of constructors: what is being made (pending objects with the references that they hold so far), all else as it will be -/
abbrev Pe : Type := Nat × Nat × (Nat → Option (Nat × Nat))
def rP (g : Nat → Nat) : List Pe → Nat → Nat → Nat → Option (Nat × Nat)
  | [], k, i, j => sr g k i j
  | q :: t, k, i, j => cond (Nat.beq k q.1 && Nat.beq i q.2.1) (q.2.2 j) (rP g t k i j)
def inc (c : Nat → Nat) (k : Nat) : Nat → Nat := fun b => if b = k then c k + 1 else c b
def upf (f : Nat → Option (Nat × Nat)) (b : Nat) (q : Nat × Nat) : Nat → Option (Nat × Nat) := fun j => cond (Nat.beq j b) (some q) (f j)
abbrev nof : Nat → Option (Nat × Nat) := fun _ => none
def levl : List Nat := [1, 5, 9, 2, 5, 4, 9, 9, 9, 9, 9, 9, 5, 9, 9, 9, 9, 9, 9, 9, 9, 4, 9, 9, 9, 9, 9, 9, 5, 9, 9, 9, 9, 9, 9, 5, 9, 2, 3, 5, 9, 9, 9, 9, 9, 9, 9, 9, 4]
/-- how deep in the making a kind stands -/
def lev (k : Nat) : Nat := levl.getD k 9
def okp (ps : List Pe) (m : Nat) : Prop := ∀ p ∈ ps, lev p.1 < m
theorem okp_n {m : Nat} : okp [] m := fun _ h => by cases h
theorem okp_c {p : Pe} {ps : List Pe} {m n : Nat} (h : okp ps n) (h1 : Nat.ble (lev p.1 + 1) m = true) (h2 : Nat.ble n m = true) : okp (p :: ps) m := fun q hq => by
  rcases List.mem_cons.mp hq with e | e
  · rw [e]; exact Nat.le_of_ble_eq_true h1
  · exact Nat.lt_of_lt_of_le (h q e) (Nat.le_of_ble_eq_true h2)
theorem okp_m {ps : List Pe} {m n : Nat} (h : okp ps n) (h2 : Nat.ble n m = true) : okp ps m := fun q hq => Nat.lt_of_lt_of_le (h q hq) (Nat.le_of_ble_eq_true h2)
theorem rP_out {g : Nat → Nat} {k m : Nat} : ∀ {ps : List Pe}, okp ps m → Nat.ble m (lev k) = true → ∀ i j, rP g ps k i j = sr g k i j
  | [], _, _, _, _ => rfl
  | p :: t, h, hk, i, j => by
    have h1 : k ≠ p.1 := fun e => by
      have h2 := h p List.mem_cons_self
      have h3 := Nat.le_of_ble_eq_true hk
      rw [e] at h3
      omega
    show cond (Nat.beq k p.1 && Nat.beq i p.2.1) (p.2.2 j) (rP g t k i j) = _
    rw [beq_ne h1]
    exact rP_out (fun q hq => h q (List.mem_cons_of_mem _ hq)) hk i j
theorem rP_hd {g : Nat → Nat} {ps : List Pe} {k i j : Nat} {f : Nat → Option (Nat × Nat)} : rP g ((k, i, f) :: ps) k i j = f j := by
  show cond (Nat.beq k k && Nat.beq i i) (f j) _ = f j
  rw [Nat.beq_refl, Nat.beq_refl]
  rfl
theorem rP_tl {g : Nat → Nat} {ps : List Pe} {k i k' i' j : Nat} {f : Nat → Option (Nat × Nat)} (h : ¬ (k' = k ∧ i' = i)) : rP g ((k, i, f) :: ps) k' i' j = rP g ps k' i' j := by
  show cond (Nat.beq k' k && Nat.beq i' i) (f j) _ = _
  by_cases h1 : k' = k
  · rw [beq_ne (a := i') (b := i) (fun e => h ⟨h1, e⟩), Bool.and_false]
    rfl
  · rw [beq_ne h1]
    rfl
theorem inc_66 {c : Nat → Nat} {k : Nat} (h : Nat.beq 66 k = false) (h66 : c 66 = 0) : inc c k 66 = 0 := by
  have hne : ¬ 66 = k := fun e => by subst e; cases h
  unfold inc
  rw [if_neg hne, h66]
theorem n66 {c : Nat → Nat} (h66 : c 66 = 0) : c ≠ nF := fun e => by rw [e] at h66; exact absurd h66 (by decide)
section KW
variable {y : Nat} {d mc ms : Nat} {z0 : Zz} {X0 : Mm} {QR : Option Av → Zz → Mm → Prop} {QX : Nat → Zz → Mm → Prop} {pc : Nat} {ls : Lo} {st : List Av} {X : Mm} {c g : Nat → Nat} {ps : List Pe} {L u v : Nat}
theorem v_refs2 {xt : List ExceptionTableEntry} {wp : Nat → Nat → Prop} {z : Zz} (c' : Nat → Nat) (R : Nat → Nat → Nat → Option (Nat × Nat)) (hc' : c' = z.1) (hR : ∀ k i j, i < z.1 k → j < aln z k → R k i j = z.2.1 k i j) (kk : V y xt d mc ms wp z0 X0 QR QX (c', R, z.2.2) pc ls st X) : V y xt d mc ms wp z0 X0 QR QX z pc ls st X := by
  intro l G ad0 p e s m args below meth c0 C ad H locs cells slots la U hl ol os
  exact kk l G ad0 p e s m args below meth c0 C ad H locs cells slots la (U.refs2 c' R hc' hR) hl (fun q hq => (ol q hq).cg hc') (fun v hv => (os v hv).cg hc')
theorem k_new (K : ∀ p, chk y p = true) {v9 : Int32} {a c9 cc np : Nat} (k i : Nat) {n : Nat} (hi : c k = i) (ht : tb y pc = (90, v9, a, c9, cc, np)) (hk : shp k = (0, c9, n)) (hn : (vck c9).2.2 = n) (hc9 : Nat.ble (c9 + 1) vcl.length = true) (h66 : c 66 = 0) (hr : (Nat.ble (u + 1) mc && Nat.ble (v + n) ms) = true)
    (kk : V y [] d mc ms allw z0 X0 QR QX (inc c k, rP g ((k, i, nof) :: ps), L, u + 1, v + n) np ls (aR k i :: st) X) : V y [] d mc ms allw z0 X0 QR QX (c, rP g ps, L, u, v) pc ls st X := by
  subst hi
  refine v_newO K k ht hk hn hc9 (n66 h66) hr (v_refs (inc c k) (rP g ((k, c k, nof) :: ps)) rfl (fun k' i' j' _ => ?_) kk)
  show _ = if k' = k ∧ i' = c k then none else rP g ps k' i' j'
  by_cases h : k' = k ∧ i' = c k
  · rw [if_pos h, h.1, h.2, rP_hd]
  · rw [if_neg h, rP_tl h]
theorem ar_eq {k i m : Nat} (ho : okp ps m) (hk9 : Nat.ble m (lev k) = true) (hs : ∀ i j, sr g k i j = none) (k' i' j' : Nat) : rP g ps k' i' j' = if k' = k ∧ i' = i then none else rP g ps k' i' j' := by
  by_cases h : k' = k ∧ i' = i
  · rw [if_pos h, h.1, rP_out ho hk9, hs]
  · rw [if_neg h]
theorem k_arI (K : ∀ p, chk y p = true) {v9 x : Int32} {b cc np m : Nat} (k i : Nat) {n : Nat} (hi : c k = i) (ho : okp ps m) (ht : tb y pc = (91, v9, 0, b, cc, np)) (hk : shp k = (1, 0, n)) (hk8 : Nat.beq k 68 = false) (hk9 : Nat.ble m (lev k) = true) (hs : ∀ i j, sr g k i j = none) (hx : x = nI n) (hn : Nat.ble n 60000 = true) (h66 : c 66 = 0) (hr : (Nat.ble (u + 1) mc && Nat.ble (v + n) ms) = true)
    (kk : V y [] d mc ms allw z0 X0 QR QX (inc c k, rP g ps, L, u + 1, v + n) np ls (aR k i :: st) X) : V y [] d mc ms allw z0 X0 QR QX (c, rP g ps, L, u, v) pc ls (aI x :: st) X := by
  subst hi
  exact v_newAI K k ht hk hk8 hx hn (n66 h66) hr (v_refs (inc c k) (rP g ps) rfl (fun k' i' j' _ => ar_eq ho hk9 hs k' i' j') kk)
theorem k_arB (K : ∀ p, chk y p = true) {v9 x : Int32} {b cc np m : Nat} (k i : Nat) {n : Nat} (hi : c k = i) (ho : okp ps m) (ht : tb y pc = (91, v9, 1, b, cc, np)) (hk : shp k = (1, 1, n)) (hk8 : Nat.beq k 68 = false) (hk9 : Nat.ble m (lev k) = true) (hs : ∀ i j, sr g k i j = none) (hx : x = nI n) (hn : Nat.ble n 60000 = true) (h66 : c 66 = 0) (hr : (Nat.ble (u + 1) mc && Nat.ble (v + n) ms) = true)
    (kk : V y [] d mc ms allw z0 X0 QR QX (inc c k, rP g ps, L, u + 1, v + n) np ls (aR k i :: st) X) : V y [] d mc ms allw z0 X0 QR QX (c, rP g ps, L, u, v) pc ls (aI x :: st) X := by
  subst hi
  exact v_newAB K k ht hk hk8 hx hn (n66 h66) hr (v_refs (inc c k) (rP g ps) rfl (fun k' i' j' _ => ar_eq ho hk9 hs k' i' j') kk)
theorem k_arL (K : ∀ p, chk y p = true) {v9 x : Int32} {b cc np m : Nat} (k i : Nat) {n : Nat} (hi : c k = i) (ho : okp ps m) (ht : tb y pc = (91, v9, 2, b, cc, np)) (hk : shp k = (1, 2, n)) (hk8 : Nat.beq k 68 = false) (hk9 : Nat.ble m (lev k) = true) (hs : ∀ i j, sr g k i j = none) (hx : x = nI n) (hn : Nat.ble n 60000 = true) (hne : c ≠ nF) (hr : (Nat.ble (u + 1) mc && Nat.ble (v + n) ms) = true)
    (kk : V y [] d mc ms allw z0 X0 QR QX (inc c k, rP g ps, L, u + 1, v + n) np ls (aR k i :: st) X) : V y [] d mc ms allw z0 X0 QR QX (c, rP g ps, L, u, v) pc ls (aI x :: st) X := by
  subst hi
  exact v_newAL K k ht hk hk8 hx hn hne hr (v_refs (inc c k) (rP g ps) rfl (fun k' i' j' _ => ar_eq ho hk9 hs k' i' j') kk)
theorem k_arO (K : ∀ p, chk y p = true) {v9 x : Int32} {a b c9 cc np : Nat} (k i : Nat) {n : Nat} (hi : c k = i) (ht : tb y pc = (92, v9, a, b, cc, np)) (hk : shp k = (1, 5, n)) (hk8 : Nat.beq k 68 = false) (hcl : Cond.classLink (RN (cid y)) a "BallotBus$State" ∈ TT) (hx : x = nI n) (hn : Nat.ble n 60000 = true) (h66 : c 66 = 0) (hr : (Nat.ble (u + 1) mc && Nat.ble (v + n) ms) = true)
    (kk : V y [] d mc ms allw z0 X0 QR QX (inc c k, rP g ((k, i, nof) :: ps), L, u + 1, v + n) np ls (aR k i :: st) X) : V y [] d mc ms allw z0 X0 QR QX (c, rP g ps, L, u, v) pc ls (aI x :: st) X := by
  subst hi
  refine v_newAO (c9 := c9) K k ht hk hk8 hcl hx hn (n66 h66) hr (v_refs (inc c k) (rP g ((k, c k, nof) :: ps)) rfl (fun k' i' j' _ => ?_) kk)
  show _ = if k' = k ∧ i' = c k then none else rP g ps k' i' j'
  by_cases h : k' = k ∧ i' = c k
  · rw [if_pos h, h.1, h.2, rP_hd]
  · rw [if_neg h, rP_tl h]
theorem upf_ne {f : Nat → Option (Nat × Nat)} {b j : Nat} {q : Nat × Nat} (h : j ≠ b) : upf f b q j = f j := by
  unfold upf
  rw [beq_ne h]
  rfl
theorem upf_at {f : Nat → Option (Nat × Nat)} {b : Nat} {q : Nat × Nat} : upf f b q b = some q := by
  unfold upf
  rw [Nat.beq_refl]
  rfl
theorem up_eq {k i b : Nat} {f : Nat → Option (Nat × Nat)} {q : Nat × Nat} (k' i' j' : Nat) (h : ¬ (k' = k ∧ i' = i ∧ j' = b)) : rP g ((k, i, upf f b q) :: ps) k' i' j' = rP g ((k, i, f) :: ps) k' i' j' := by
  by_cases h1 : k' = k ∧ i' = i
  · obtain ⟨rfl, rfl⟩ := h1
    rw [rP_hd, rP_hd, upf_ne (fun e => h ⟨rfl, rfl, e⟩)]
  · rw [rP_tl h1, rP_tl h1]
theorem k_put (K : ∀ p, chk y p = true) {v9 : Int32} {a b c9 np k i n k2 i2 : Nat} {f : Nat → Option (Nat × Nat)} (ht : tb y pc = (51, v9, a, b, c9, np)) (h1 : shp k = (0, c9, n)) (h2 : Nat.ble (b + 1) n = true) (hfin : ((vck c9).2.1 b).2.2.2 = false) (hft : ft c9 b = 3) (hw : Nat.beq k 68 = false) (hn : ∀ a : Nat, narrow (vty c9 b) (.ref a) = .ref a) (hfit : ∀ a : Nat, fits (vty c9 b) (.ref a) = true)
    (kk : V y [] d mc ms allw z0 X0 QR QX (c, rP g ((k, i, upf f b (k2, i2)) :: ps), L, u, v) np ls st X) : V y [] d mc ms allw z0 X0 QR QX (c, rP g ((k, i, f) :: ps), L, u, v) pc ls (aR k2 i2 :: aR k i :: st) X :=
  v_putG (cc := c) (q0 := (k2, i2)) K (rP g ((k, i, upf f b (k2, i2)) :: ps)) ht h1 h2 hfin hft hw rfl (fun k' i' j' _ h => up_eq k' i' j' h) (by rw [rP_hd, upf_at]) hn hfit (fun _ _ => kk)
theorem k_putF (K : ∀ p, chk y p = true) {v9 : Int32} {a b c9 np k i n k2 i2 : Nat} {f : Nat → Option (Nat × Nat)} (ht : tb y pc = (51, v9, a, b, c9, np)) (h1 : shp k = (0, c9, n)) (h2 : Nat.ble (b + 1) n = true) (hfin : ((vck c9).2.1 b).2.2.2 = true) (hini : isIni y = true) (hdecl : ((vck c9).2.1 b).1 = RN (cid y)) (hft : ft c9 b = 3) (hw : Nat.beq k 68 = false) (hn : ∀ a : Nat, narrow (vty c9 b) (.ref a) = .ref a) (hfit : ∀ a : Nat, fits (vty c9 b) (.ref a) = true)
    (kk : V y [] d mc ms allw z0 X0 QR QX (c, rP g ((k, i, upf f b (k2, i2)) :: ps), L, u, v) np ls st X) : V y [] d mc ms allw z0 X0 QR QX (c, rP g ((k, i, f) :: ps), L, u, v) pc ls (aR k2 i2 :: aR k i :: st) X :=
  v_putGF (cc := c) (q0 := (k2, i2)) K (rP g ((k, i, upf f b (k2, i2)) :: ps)) ht h1 h2 hfin hini hdecl hft hw rfl (fun k' i' j' _ h => up_eq k' i' j' h) (by rw [rP_hd, upf_at]) hn hfit (fun _ _ => kk)
theorem k_aast (K : ∀ p, chk y p = true) {v9 x : Int32} {a b c9 np k i k2 i2 c2 n n2 : Nat} (j : Nat) {f : Nat → Option (Nat × Nat)} (ht : tb y pc = (94, v9, a, b, c9, np)) (h1 : shp k = (1, 5, n)) (hk8 : Nat.beq k 68 = false) (h2 : shp k2 = (0, c2, n2)) (hc2 : (vck c2).1 = "BallotBus$State") (hc9 : Nat.ble (c2 + 1) vcl.length = true) (hx : x = nI j) (hj : Nat.ble (j + 1) n = true) (hn : Nat.ble n 60000 = true)
    (kk : V y [] d mc ms allw z0 X0 QR QX (c, rP g ((k, i, upf f j (k2, i2)) :: ps), L, u, v) np ls st X) : V y [] d mc ms allw z0 X0 QR QX (c, rP g ((k, i, f) :: ps), L, u, v) pc ls (aR k2 i2 :: aI x :: aR k i :: st) X :=
  v_aast (cc := c) K (rP g ((k, i, upf f j (k2, i2)) :: ps)) ht h1 hk8 h2 hc2 hc9 hx hj hn hk8 rfl (fun k' i' j' _ h => up_eq k' i' j' h) (by rw [rP_hd, upf_at]) (fun _ _ => kk)
/-- an object is made whole: it holds what it will hold -/
theorem k_pop {k i m n : Nat} {f : Nat → Option (Nat × Nat)} (ho : okp ps m) (hk9 : Nat.ble m (lev k) = true) (hk8 : Nat.beq k 68 = false) (hn : (shp k).2.2 = n) (hf : ∀ j, j < n → sr g k i j = f j) (kk : V y [] d mc ms allw z0 X0 QR QX (c, rP g ps, L, u, v) pc ls st X) : V y [] d mc ms allw z0 X0 QR QX (c, rP g ((k, i, f) :: ps), L, u, v) pc ls st X := by
  refine v_refs2 c (rP g ps) rfl (fun k' i' j' _ hj => ?_) kk
  by_cases h : k' = k ∧ i' = i
  · obtain ⟨rfl, rfl⟩ := h
    have hj : j' < n := by
      have h9 := hj
      unfold aln at h9
      rw [hk8, hn] at h9
      exact h9
    show _ = rP g ((k', i', f) :: ps) k' i' j'
    rw [rP_hd, rP_out ho hk9]
    exact hf j' hj
  · exact (rP_tl h).symm
/-- the end of a constructor: counts, references, memory -/
abbrev Qk (c : Nat → Nat) (R : Nat → Nat → Nat → Option (Nat × Nat)) (X : Mm) : Option Av → Zz → Mm → Prop := fun w z X2 => w = none ∧ z.1 = c ∧ z.2.1 = R ∧ X2 = X
abbrev noZ : Nat → Zz → Mm → Prop := fun _ _ _ => False
/-- a constructor's contract -/
abbrev Kc (y d mc ms L : Nat) (c : Nat → Nat) (R : Nat → Nat → Nat → Option (Nat × Nat)) (X : Mm) (As : List Av) (c' : Nat → Nat) (R' : Nat → Nat → Nat → Option (Nat × Nat)) (X' : Mm) : Prop := Ct y d mc ms allw (c, R, L, 0, 0) X As (Qk c' R' X') noZ
theorem k_of {As : List Av} {R R' : Nat → Nat → Nat → Option (Nat × Nat)} {c' : Nat → Nat} {X' : Mm} (ls : Lo) (hy : Nat.ble y 299 = true) (hls : lar 0 As = ls) (hwid : Nat.ble (wid As) (mxl y) = true) (h : ∀ z0 X0, V y [] d mc ms allw z0 X0 (Qk c' R' X') noZ (c, R, L, 0, 0) 0 ls [] X) : Kc y d mc ms L c R X As c' R' X' :=
  Ct_of (Nat.lt_succ_of_le (Nat.le_of_ble_eq_true hy)) (fun i h => nomatch h) hls hwid (h _ _)
theorem k_call (K : ∀ p, chk y p = true) {v9 : Int32} {a np y' d' mc' ms' k9 i9 : Nat} {As stk : List Av} {R R' : Nat → Nat → Nat → Option (Nat × Nat)} {c' : Nat → Nat} {X' : Mm} (ht : tb y pc = (82, v9, a, y', 0, np)) (hC : Kc y' d' mc' ms' L c R X (aR k9 i9 :: As) c' R' X') (hs : stk = rapp (aR k9 i9 :: As) st) (hlen : As.length = npl.getD y' 0) (hd : Nat.ble (d' + 1) d = true) (hm : (Nat.ble (u + mc') mc && Nat.ble (v + ms') ms) = true) (hst : Nat.ble st.length 4 = true)
    (kk : V y [] d mc ms allw z0 X0 QR QX (c', R', L, u + mc', v + ms') np ls st X') : V y [] d mc ms allw z0 X0 QR QX (c, R, L, u, v) pc ls stk X := by
  refine v_callI K ht hC hs ⟨rfl, rfl, rfl⟩ (fun _ _ h => h) hlen hd hm hst (fun w z2 X2 h _ => ?_) (fun x z2 X2 h _ => h.elim)
  obtain ⟨rfl, h1, h2, rfl⟩ := h
  rw [h1, h2]
  exact kk
theorem k_callN (K : ∀ p, chk y p = true) {v9 : Int32} {a np y' d' mc' ms' k9 i9 : Nat} {As stk : List Av} {R R' : Nat → Nat → Nat → Option (Nat × Nat)} {c' : Nat → Nat} {X' : Mm} (ht : tb y pc = (82, v9, a, y', 1, np)) (hC : Kc y' d' mc' ms' L c R X (aR k9 i9 :: As) c' R' X') (hs : stk = rapp (aR k9 i9 :: As) st) (hlen : As.length = npl.getD y' 0) (hd : Nat.ble (d' + 1) d = true) (hm : (Nat.ble (u + mc') mc && Nat.ble (v + ms') ms) = true) (hst : Nat.ble st.length 4 = true)
    (kk : V y [] d mc ms allw z0 X0 QR QX (c', R', L, u + mc', v + ms') np ls st X') : V y [] d mc ms allw z0 X0 QR QX (c, R, L, u, v) pc ls stk X := by
  refine v_callIN K ht hC hs ⟨rfl, rfl, rfl⟩ (fun _ _ h => h) hlen hd hm hst (fun w z2 X2 h _ => ?_) (fun x z2 X2 h _ => h.elim)
  obtain ⟨rfl, h1, h2, rfl⟩ := h
  rw [h1, h2]
  exact kk
theorem k_callV (K : ∀ p, chk y p = true) {v9 : Int32} {a c9 np y' d' mc' ms' k9 i9 cl9 n9 : Nat} {As stk : List Av} {R R' : Nat → Nat → Nat → Option (Nat × Nat)} {c' : Nat → Nat} {X' : Mm} (ht : tb y pc = (81, v9, a, y', c9, np)) (hC : Kc y' d' mc' ms' L c R X (aR k9 i9 :: As) c' R' X') (hsh : shp k9 = (0, cl9, n9)) (hcl : (vck cl9).1 = RN (cid y')) (hc9 : Nat.ble (cl9 + 1) vcl.length = true) (hs : stk = rapp (aR k9 i9 :: As) st) (hlen : As.length = npl.getD y' 0) (hd : Nat.ble (d' + 1) d = true) (hm : (Nat.ble (u + mc') mc && Nat.ble (v + ms') ms) = true) (hst : Nat.ble st.length 4 = true)
    (kk : V y [] d mc ms allw z0 X0 QR QX (c', R', L, u + mc', v + ms') np ls st X') : V y [] d mc ms allw z0 X0 QR QX (c, R, L, u, v) pc ls stk X := by
  refine v_callV K ht hC hsh hcl hc9 hs ⟨rfl, rfl, rfl⟩ (fun _ _ h => h) hlen hd hm hst (fun w z2 X2 h _ => ?_) (fun x z2 X2 h _ => h.elim)
  obtain ⟨rfl, h1, h2, rfl⟩ := h
  rw [h1, h2]
  exact kk
/-- a method's contract, once all of a time is made, as such a contract -/
theorem k_mt {y' d' b' : Nat} {As : List Av} {Y Y' : Sm} (hC : Mt d' b' y' As Y (Rt none Y') nX) (L : Nat) : Kc y' d' b' (6 * b') L (cF Y.2) (sr Y.2) Y.1 As (cF Y'.2) (sr Y'.2) Y'.1 := by
  obtain ⟨h1, h2⟩ := hC L
  refine ⟨h1, fun l G ad sz hst => ?_⟩
  have h3 := h2 l G ad sz hst
  have e1 : (qn (Rt none Y') : Option Av → Zz → Mm → Prop) = Qk (cF Y'.2) (sr Y'.2) Y'.1 := by
    funext w z X2
    refine propext ⟨fun h => ?_, fun h => ?_⟩
    · obtain ⟨g', a1, a2, a3, a4⟩ := h
      subst a4
      exact ⟨a3, a1, a2, rfl⟩
    · obtain ⟨a1, a2, a3, a4⟩ := h
      exact ⟨Y'.2, a2, a3, a1, by rw [a4]⟩
  have e2 : (qn nX : Nat → Zz → Mm → Prop) = noZ := by
    funext w z X2
    refine propext ⟨fun h => ?_, fun h => h.elim⟩
    obtain ⟨g', a1, a2, a3⟩ := h
    exact a3
  rw [e1, e2] at h3
  exact h3
theorem k_ret {v9 : Int32} {a b c9 np : Nat} {R : Nat → Nat → Nat → Option (Nat × Nat)} (K : ∀ p, chk y p = true) (ht : tb y pc = (74, v9, a, b, c9, np)) (hrt : rtt y = none) (hr : rok d mc ms (c, R, L, u, v) = true) : V y [] d mc ms allw z0 X0 (Qk c R X) QX (c, R, L, u, v) pc ls [] X := v_return K ht hrt ⟨rfl, rfl, rfl, rfl⟩ hr
end KW
