/-! walks over one state: the memory and which setup is where (printed by wip/whole/gen18.py) -/
abbrev Sm : Type := Mm × (Nat → Nat)
abbrev allw : Nat → Nat → Prop := fun k _ => Nat.beq k 68 = false
abbrev qn {α : Type} (P : α → Sm → Prop) : α → Zz → Mm → Prop := fun v z X => ∃ g, z.1 = cF g ∧ z.2.1 = sr g ∧ P v (X, g)
/-- the contract: y called with As in Y ends as P, or throws as E -/
def Mt (d b y : Nat) (As : List Av) (Y : Sm) (P : Option Av → Sm → Prop) (E : Nat → Sm → Prop) : Prop := ∀ L, Ct y d b (6 * b) allw (zU Y.2 L 0 0) Y.1 As (qn P) (qn E)
/-- the walk -/
def Wm (d b y u pc : Nat) (ls : Lo) (st : List Av) (Y : Sm) (P : Option Av → Sm → Prop) (E : Nat → Sm → Prop) : Prop := ∀ L z0 X0, V y [] d b (6 * b) allw z0 X0 (qn P) (qn E) (zU Y.2 L u (6 * u)) pc ls st Y.1
abbrev Rt (v : Option Av) (Y : Sm) : Option Av → Sm → Prop := fun w Z => w = v ∧ Z = Y
abbrev Xt (x : Nat) (Y : Sm) : Nat → Sm → Prop := fun w Z => w = x ∧ Z = Y
abbrev nR : Option Av → Sm → Prop := fun _ _ => False
abbrev nX : Nat → Sm → Prop := fun _ _ => False
theorem Mt_of {d b y : Nat} {As : List Av} {Y : Sm} {P : Option Av → Sm → Prop} {E : Nat → Sm → Prop} (ls : Lo) (h : Wm d b y 0 0 ls [] Y P E) (hy : Nat.ble y 299 = true := by rfl) (hls : lar 0 As = ls := by rfl) (hwid : Nat.ble (wid As) (mxl y) = true := by rfl) : Mt d b y As Y P E :=
  fun L => Ct_of (Nat.lt_succ_of_le (Nat.le_of_ble_eq_true hy)) (fun i h => nomatch h) hls hwid (h L (zU Y.2 L 0 0) Y.1)
section WM
variable {d b y u pc : Nat} {ls : Lo} {st : List Av} {Y : Sm} {P : Option Av → Sm → Prop} {E : Nat → Sm → Prop}
theorem w_seg (K : ∀ p, chk y p = true) (n : Nat) {pc' : Nat} {ls' : Lo} {st' : List Av} {X' : Mm} {cs' : List Prop} (h : ∀ L, seg allw (zU Y.2 L u (6 * u)) y n pc ls st Y.1 [] = some (pc', ls', st', X', cs')) (hc : allP cs') (k : Wm d b y u pc' ls' st' (X', Y.2) P E) (hr : (Nat.ble 4 d && (Nat.ble u b && Nat.ble (6 * u) (6 * b))) = true := by rfl) : Wm d b y u pc ls st Y P E :=
  fun L z0 X0 => v_seg K n (h L) hc (k L z0 X0) hr
theorem w_ls (l2 : Lo) (h : ∀ q ∈ l2, lget q.1 ls = some q.2) (k : Wm d b y u pc l2 st Y P E) : Wm d b y u pc ls st Y P E := fun L z0 X0 => v_ls l2 h (k L z0 X0)
theorem w_icmp_eq (K : ∀ p, chk y p = true) {v a b9 : Int32} {tg c np : Nat} (ht : tb y pc = (64, v, tg, 0, c, np)) (kt : a = b9 → Wm d b y u tg ls st Y P E) (kf : ¬ a = b9 → Wm d b y u np ls st Y P E) : Wm d b y u pc ls (aI b9 :: aI a :: st) Y P E := fun L z0 X0 => v_icmp_eq K ht (fun q => kt q L z0 X0) (fun q => kf q L z0 X0)
theorem w_if_eq (K : ∀ p, chk y p = true) {v a : Int32} {tg c np : Nat} (ht : tb y pc = (65, v, tg, 0, c, np)) (kt : a = 0 → Wm d b y u tg ls st Y P E) (kf : ¬ a = 0 → Wm d b y u np ls st Y P E) : Wm d b y u pc ls (aI a :: st) Y P E := fun L z0 X0 => v_if_eq K ht (fun q => kt q L z0 X0) (fun q => kf q L z0 X0)
theorem w_icmp_ne (K : ∀ p, chk y p = true) {v a b9 : Int32} {tg c np : Nat} (ht : tb y pc = (64, v, tg, 1, c, np)) (kt : ¬ a = b9 → Wm d b y u tg ls st Y P E) (kf : a = b9 → Wm d b y u np ls st Y P E) : Wm d b y u pc ls (aI b9 :: aI a :: st) Y P E := fun L z0 X0 => v_icmp_ne K ht (fun q => kt q L z0 X0) (fun q => kf q L z0 X0)
theorem w_if_ne (K : ∀ p, chk y p = true) {v a : Int32} {tg c np : Nat} (ht : tb y pc = (65, v, tg, 1, c, np)) (kt : ¬ a = 0 → Wm d b y u tg ls st Y P E) (kf : a = 0 → Wm d b y u np ls st Y P E) : Wm d b y u pc ls (aI a :: st) Y P E := fun L z0 X0 => v_if_ne K ht (fun q => kt q L z0 X0) (fun q => kf q L z0 X0)
theorem w_icmp_lt (K : ∀ p, chk y p = true) {v a b9 : Int32} {tg c np : Nat} (ht : tb y pc = (64, v, tg, 2, c, np)) (kt : a < b9 → Wm d b y u tg ls st Y P E) (kf : ¬ a < b9 → Wm d b y u np ls st Y P E) : Wm d b y u pc ls (aI b9 :: aI a :: st) Y P E := fun L z0 X0 => v_icmp_lt K ht (fun q => kt q L z0 X0) (fun q => kf q L z0 X0)
theorem w_if_lt (K : ∀ p, chk y p = true) {v a : Int32} {tg c np : Nat} (ht : tb y pc = (65, v, tg, 2, c, np)) (kt : a < 0 → Wm d b y u tg ls st Y P E) (kf : ¬ a < 0 → Wm d b y u np ls st Y P E) : Wm d b y u pc ls (aI a :: st) Y P E := fun L z0 X0 => v_if_lt K ht (fun q => kt q L z0 X0) (fun q => kf q L z0 X0)
theorem w_icmp_ge (K : ∀ p, chk y p = true) {v a b9 : Int32} {tg c np : Nat} (ht : tb y pc = (64, v, tg, 3, c, np)) (kt : b9 ≤ a → Wm d b y u tg ls st Y P E) (kf : ¬ b9 ≤ a → Wm d b y u np ls st Y P E) : Wm d b y u pc ls (aI b9 :: aI a :: st) Y P E := fun L z0 X0 => v_icmp_ge K ht (fun q => kt q L z0 X0) (fun q => kf q L z0 X0)
theorem w_if_ge (K : ∀ p, chk y p = true) {v a : Int32} {tg c np : Nat} (ht : tb y pc = (65, v, tg, 3, c, np)) (kt : 0 ≤ a → Wm d b y u tg ls st Y P E) (kf : ¬ 0 ≤ a → Wm d b y u np ls st Y P E) : Wm d b y u pc ls (aI a :: st) Y P E := fun L z0 X0 => v_if_ge K ht (fun q => kt q L z0 X0) (fun q => kf q L z0 X0)
theorem w_icmp_gt (K : ∀ p, chk y p = true) {v a b9 : Int32} {tg c np : Nat} (ht : tb y pc = (64, v, tg, 4, c, np)) (kt : b9 < a → Wm d b y u tg ls st Y P E) (kf : ¬ b9 < a → Wm d b y u np ls st Y P E) : Wm d b y u pc ls (aI b9 :: aI a :: st) Y P E := fun L z0 X0 => v_icmp_gt K ht (fun q => kt q L z0 X0) (fun q => kf q L z0 X0)
theorem w_if_gt (K : ∀ p, chk y p = true) {v a : Int32} {tg c np : Nat} (ht : tb y pc = (65, v, tg, 4, c, np)) (kt : 0 < a → Wm d b y u tg ls st Y P E) (kf : ¬ 0 < a → Wm d b y u np ls st Y P E) : Wm d b y u pc ls (aI a :: st) Y P E := fun L z0 X0 => v_if_gt K ht (fun q => kt q L z0 X0) (fun q => kf q L z0 X0)
theorem w_icmp_le (K : ∀ p, chk y p = true) {v a b9 : Int32} {tg c np : Nat} (ht : tb y pc = (64, v, tg, 5, c, np)) (kt : a ≤ b9 → Wm d b y u tg ls st Y P E) (kf : ¬ a ≤ b9 → Wm d b y u np ls st Y P E) : Wm d b y u pc ls (aI b9 :: aI a :: st) Y P E := fun L z0 X0 => v_icmp_le K ht (fun q => kt q L z0 X0) (fun q => kf q L z0 X0)
theorem w_if_le (K : ∀ p, chk y p = true) {v a : Int32} {tg c np : Nat} (ht : tb y pc = (65, v, tg, 5, c, np)) (kt : a ≤ 0 → Wm d b y u tg ls st Y P E) (kf : ¬ a ≤ 0 → Wm d b y u np ls st Y P E) : Wm d b y u pc ls (aI a :: st) Y P E := fun L z0 X0 => v_if_le K ht (fun q => kt q L z0 X0) (fun q => kf q L z0 X0)
theorem w_swIn (K : ∀ p, chk y p = true) {v : Int32} (j : Nat) {a b9 c np len df lo t : Nat} {ts : List Nat} (ht : tb y pc = (66, v, a, b9, c, np)) (hs : swl.getD a (0, 0, 0, []) = (len, df, lo, ts)) (hb : Nat.ble (lo + ts.length) 1000 = true) (hj : ts[j]? = some t) (k : Wm d b y u t ls st Y P E) : Wm d b y u pc ls (aI (nI (lo + j)) :: st) Y P E := fun L z0 X0 => v_swIn K ht hs (Nat.lt_of_le_of_lt (Nat.le_of_ble_eq_true hb) (by decide)) hj (k L z0 X0)
theorem sw_out {x : Int32} {lo : Nat} : ∀ n : Nat, lo + n < 1000 → (∀ j, j < n → ¬ x = nI (lo + j)) → x.toInt < (lo : Int) ∨ ((lo + n : Nat) : Int) ≤ x.toInt
  | 0, _, _ => by
    rcases Int.lt_or_le x.toInt lo with h | h
    · exact Or.inl h
    · exact Or.inr h
  | n + 1, hb, h => by
    rcases sw_out (x := x) (lo := lo) n (by omega) (fun j hj => h j (by omega)) with q | q
    · exact Or.inl q
    · by_cases e : x.toInt = ((lo + n : Nat) : Int)
      · refine absurd ?_ (h n (by omega))
        apply Int32.toInt_inj.mp
        rw [e, nI_toInt (by omega)]
      · right
        omega
theorem w_swOut (K : ∀ p, chk y p = true) {v x : Int32} {a b9 c np len df lo : Nat} {ts : List Nat} (ht : tb y pc = (66, v, a, b9, c, np)) (hs : swl.getD a (0, 0, 0, []) = (len, df, lo, ts)) (hb : (Nat.ble (lo + ts.length) 999 && Nat.ble 1 ts.length) = true) (hx : ∀ j, j < ts.length → ¬ x = nI (lo + j)) (k : Wm d b y u df ls st Y P E) : Wm d b y u pc ls (aI x :: st) Y P E := by
  obtain ⟨b1, b2⟩ := Bool.and_eq_true_iff.mp hb
  have b1 := Nat.le_of_ble_eq_true b1
  have b2 := Nat.le_of_ble_eq_true b2
  refine fun L z0 X0 => v_swOut K ht hs ?_ (k L z0 X0)
  rcases sw_out (x := x) (lo := lo) ts.length (by omega) hx with q | q
  · exact Or.inl q
  · right
    omega
theorem w_callS (K : ∀ p, chk y p = true) {v9 : Int32} {a c np y' d' b' : Nat} {As stk : List Av} {v : Option Av} {Y' : Sm} {E' : Nat → Sm → Prop} (hC : Mt d' b' y' As Y (Rt v Y') E') (ht : tb y pc = (80, v9, a, y', c, np)) (hs : stk = rapp As st) (kk : Wm d b y (u + b') np ls (v.toList ++ st) Y' P E) (kx : ∀ x Z, E' x Z → E x Z)
    (hr : (Nat.ble 4 d && (Nat.ble (u + b') b && Nat.ble (6 * u + 6 * b') (6 * b))) = true := by rfl) (hy' : Nat.ble y' 299 = true := by rfl) (hlen : As.length = npl.getD y' 0 := by rfl) (hd : Nat.ble (d' + 1) d = true := by rfl) (hst : Nat.ble st.length 4 = true := by rfl) : Wm d b y u pc ls stk Y P E := by
  intro L z0 X0
  refine v_callS K ht (hC L) hy' hs ⟨rfl, rfl, rfl⟩ (fun _ _ h => h) hlen hd (Bool.and_eq_true_iff.mp hr).2 hst (fun w z2 X2 h _ => ?_) (fun x z2 X2 h _ => ?_)
  · obtain ⟨g, h1, h2, rfl, rfl⟩ := h
    rw [h1, h2]
    have k9 := kk L z0 X0
    rw [Nat.mul_add] at k9
    exact k9
  · obtain ⟨g, h1, h2, h3⟩ := h
    exact vx_none ⟨g, h1, h2, kx x _ h3⟩ hr
theorem w_callV (K : ∀ p, chk y p = true) {v9 : Int32} {a c np y' d' b' k9 i9 c9 n9 : Nat} {As stk : List Av} {v : Option Av} {Y' : Sm} {E' : Nat → Sm → Prop} (hC : Mt d' b' y' (aR k9 i9 :: As) Y (Rt v Y') E') (ht : tb y pc = (81, v9, a, y', c, np)) (hs : stk = rapp (aR k9 i9 :: As) st) (kk : Wm d b y (u + b') np ls (v.toList ++ st) Y' P E) (kx : ∀ x Z, E' x Z → E x Z)
    (hr : (Nat.ble 4 d && (Nat.ble (u + b') b && Nat.ble (6 * u + 6 * b') (6 * b))) = true := by rfl) (hsh : shp k9 = (0, c9, n9) := by rfl) (hcl : (vck c9).1 = RN (cid y') := by rfl) (hc9 : Nat.ble (c9 + 1) vcl.length = true := by rfl) (hlen : As.length = npl.getD y' 0 := by rfl) (hd : Nat.ble (d' + 1) d = true := by rfl) (hst : Nat.ble st.length 4 = true := by rfl) : Wm d b y u pc ls stk Y P E := by
  intro L z0 X0
  refine v_callV K ht (hC L) hsh hcl hc9 hs ⟨rfl, rfl, rfl⟩ (fun _ _ h => h) hlen hd (Bool.and_eq_true_iff.mp hr).2 hst (fun w z2 X2 h _ => ?_) (fun x z2 X2 h _ => ?_)
  · obtain ⟨g, h1, h2, rfl, rfl⟩ := h
    rw [h1, h2]
    have k9 := kk L z0 X0
    rw [Nat.mul_add] at k9
    exact k9
  · obtain ⟨g, h1, h2, h3⟩ := h
    exact vx_none ⟨g, h1, h2, kx x _ h3⟩ hr
/-- a call that throws -/
theorem w_xcallV (K : ∀ p, chk y p = true) {v9 : Int32} {a c np y' d' b' k9 i9 c9 n9 : Nat} {As stk : List Av} {x : Nat} {Y' : Sm} (hC : Mt d' b' y' (aR k9 i9 :: As) Y nR (Xt x Y')) (ht : tb y pc = (81, v9, a, y', c, np)) (hs : stk = rapp (aR k9 i9 :: As) st) (kx : E x Y')
    (hr : (Nat.ble 4 d && (Nat.ble (u + b') b && Nat.ble (6 * u + 6 * b') (6 * b))) = true := by rfl) (hsh : shp k9 = (0, c9, n9) := by rfl) (hcl : (vck c9).1 = RN (cid y') := by rfl) (hc9 : Nat.ble (c9 + 1) vcl.length = true := by rfl) (hlen : As.length = npl.getD y' 0 := by rfl) (hd : Nat.ble (d' + 1) d = true := by rfl) (hst : Nat.ble st.length 4 = true := by rfl) : Wm d b y u pc ls stk Y P E := by
  intro L z0 X0
  refine v_callV K ht (hC L) hsh hcl hc9 hs ⟨rfl, rfl, rfl⟩ (fun _ _ h => h) hlen hd (Bool.and_eq_true_iff.mp hr).2 hst (fun w z2 X2 h _ => ?_) (fun x z2 X2 h _ => ?_)
  · obtain ⟨g, h1, h2, h3⟩ := h
    exact h3.elim
  · obtain ⟨g, h1, h2, rfl, rfl⟩ := h
    exact vx_none ⟨g, h1, h2, kx⟩ hr
theorem w_ireturn (K : ∀ p, chk y p = true) {v : Int32} {a b9 c np : Nat} {x : Int32} (hq : P (some (aI x)) Y) (ht : tb y pc = (70, v, a, b9, c, np) := by rfl) (hrt : rtt y = some .int := by rfl) (hr : (Nat.ble 4 d && (Nat.ble u b && Nat.ble (6 * u) (6 * b))) = true := by rfl) : Wm d b y u pc ls [aI x] Y P E := fun L z0 X0 => v_ireturn K ht hrt ⟨Y.2, rfl, rfl, hq⟩ hr
theorem w_zreturn (K : ∀ p, chk y p = true) {v : Int32} {a b9 c np : Nat} {x : Int32} (hx : x = 0 ∨ x = 1) (hq : P (some (aI x)) Y) (ht : tb y pc = (70, v, a, b9, c, np) := by rfl) (hrt : rtt y = some .boolean := by rfl) (hr : (Nat.ble 4 d && (Nat.ble u b && Nat.ble (6 * u) (6 * b))) = true := by rfl) : Wm d b y u pc ls [aI x] Y P E := fun L z0 X0 => v_zreturn K ht hrt hx ⟨Y.2, rfl, rfl, hq⟩ hr
theorem w_lreturn (K : ∀ p, chk y p = true) {v : Int32} {a b9 c np : Nat} {x : Int64} (hq : P (some (aJ x)) Y) (ht : tb y pc = (71, v, a, b9, c, np) := by rfl) (hrt : rtt y = some .long := by rfl) (hr : (Nat.ble 4 d && (Nat.ble u b && Nat.ble (6 * u) (6 * b))) = true := by rfl) : Wm d b y u pc ls [aJ x] Y P E := fun L z0 X0 => v_lreturn K ht hrt ⟨Y.2, rfl, rfl, hq⟩ hr
theorem w_freturn (K : ∀ p, chk y p = true) {v : Int32} {a b9 c np : Nat} {x : UInt32} (hq : P (some (aF x)) Y) (ht : tb y pc = (72, v, a, b9, c, np) := by rfl) (hrt : rtt y = some .float := by rfl) (hr : (Nat.ble 4 d && (Nat.ble u b && Nat.ble (6 * u) (6 * b))) = true := by rfl) : Wm d b y u pc ls [aF x] Y P E := fun L z0 X0 => v_freturn K ht hrt ⟨Y.2, rfl, rfl, hq⟩ hr
theorem w_dreturn (K : ∀ p, chk y p = true) {v : Int32} {a b9 c np : Nat} {x : UInt64} (hq : P (some (aD x)) Y) (ht : tb y pc = (73, v, a, b9, c, np) := by rfl) (hrt : rtt y = some .double := by rfl) (hr : (Nat.ble 4 d && (Nat.ble u b && Nat.ble (6 * u) (6 * b))) = true := by rfl) : Wm d b y u pc ls [aD x] Y P E := fun L z0 X0 => v_dreturn K ht hrt ⟨Y.2, rfl, rfl, hq⟩ hr
theorem w_return (K : ∀ p, chk y p = true) {v : Int32} {a b9 c np : Nat} (hq : P none Y) (ht : tb y pc = (74, v, a, b9, c, np) := by rfl) (hrt : rtt y = none := by rfl) (hr : (Nat.ble 4 d && (Nat.ble u b && Nat.ble (6 * u) (6 * b))) = true := by rfl) : Wm d b y u pc ls [] Y P E := fun L z0 X0 => v_return K ht hrt ⟨Y.2, rfl, rfl, hq⟩ hr
theorem w_throw (K : ∀ p, chk y p = true) {v : Int32} {a b9 c np : Nat} (ht : tb y pc = (95, v, a, b9, c, np)) (hth : thr y pc v a b9 c np = true) (hq : E c Y) (hr : (Nat.ble 4 d && (Nat.ble (u + 1) b && Nat.ble (6 * u + 6) (6 * b))) = true := by rfl) (hd6 : Nat.ble 6 d = true := by rfl) (hst : Nat.ble st.length 4 = true := by rfl) : Wm d b y u pc ls st Y P E := fun L z0 X0 => v_throw K ht hth ⟨Y.2, rfl, rfl, hq⟩ hr hd6 hst
end WM
/-- an index within an array -/
def inb (j : Int32) (n : Nat) : Bool := decide (0 ≤ j.toInt) && decide (j.toInt < (n : Int))
def bz (x : Int32) : Bool := decide (x = 0) || decide (x = 1)
theorem bz_or {x : Int32} (h : bz x = true) : x = 0 ∨ x = 1 := by
  rcases Bool.or_eq_true_iff.mp h with h | h
  · exact Or.inl (of_decide_eq_true h)
  · exact Or.inr (of_decide_eq_true h)
