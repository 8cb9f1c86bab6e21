/-! walks of the law's methods: the length of the script stands in them, the room is counted backwards (printed by wip/p53/new/xa.py) -/
def WL (L y d B n pc : Nat) (ls : Lo) (st : List Av) (Y : Sm) (P : Option Av → Sm → Prop) (E : Nat → Sm → Prop) : Prop := ∀ z0 X0 u, u + n ≤ B → V y [] d B (6 * B) allw z0 X0 (qn P) (qn E) (zU Y.2 L u (6 * u)) pc ls st Y.1
def ML (L d B y : Nat) (As : List Av) (Y : Sm) (P : Option Av → Sm → Prop) (E : Nat → Sm → Prop) : Prop := Ct y d B (6 * B) allw (zU Y.2 L 0 0) Y.1 As (qn P) (qn E)
theorem ML_mt {L d B y : Nat} {As : List Av} {Y : Sm} {P : Option Av → Sm → Prop} {E : Nat → Sm → Prop} (h : Mt d B y As Y P E) : ML L d B y As Y P E := h L
theorem ML_of {L d B y : Nat} {As : List Av} {Y : Sm} {P : Option Av → Sm → Prop} {E : Nat → Sm → Prop} (ls : Lo) (h : WL L y d B B 0 ls [] Y P E) (hy : Nat.ble y 299 = true := by rfl) (hls : lar 0 As = ls := by rfl) (hwid : Nat.ble (wid As) (mxl y) = true := by rfl) : ML L d B y As Y P E :=
  Ct_of (Nat.lt_succ_of_le (Nat.le_of_ble_eq_true hy)) (fun i h => nomatch h) hls hwid (h (zU Y.2 L 0 0) Y.1 0 (by omega))
theorem Mt_ml {d B y : Nat} {As : List Av} {Y : Sm} {P : Option Av → Sm → Prop} {E : Nat → Sm → Prop} (h : ∀ L, ML L d B y As Y P E) : Mt d B y As Y P E := h
theorem rokl {d B u n : Nat} {g : Nat → Nat} {L : Nat} (hd : Nat.ble 4 d = true) (h : u + n ≤ B) : rok d B (6 * B) (zU g L u (6 * u)) = true := by
  show (Nat.ble 4 d && (Nat.ble u B && Nat.ble (6 * u) (6 * B))) = true
  rw [hd, Nat.ble_eq_true_of_le (by omega : u ≤ B), Nat.ble_eq_true_of_le (by omega : 6 * u ≤ 6 * B)]
  rfl
section LM
variable {L y d B n pc : Nat} {ls : Lo} {st : List Av} {Y : Sm} {P : Option Av → Sm → Prop} {E : Nat → Sm → Prop}
theorem m_mono {r : Nat} (h : WL L y d B n pc ls st Y P E) : WL L y d B (n + r) pc ls st Y P E := fun z0 X0 u hu => h z0 X0 u (by omega)
theorem m_le {r : Nat} (hr : n ≤ r) (h : WL L y d B n pc ls st Y P E) : WL L y d B r pc ls st Y P E := fun z0 X0 u hu => h z0 X0 u (by omega)
theorem m_sg (K : ∀ p, chk y p = true) (s : Nat) {pc' : Nat} {ls' : Lo} {st' : List Av} {cs' : List Prop} (h : ∀ u, seg allw (zU Y.2 L u (6 * u)) y s pc ls st Y.1 [] = some (pc', ls', st', Y.1, cs')) (hc : allP cs') (k : WL L y d B n pc' ls' st' Y P E) (hd : Nat.ble 4 d = true := by rfl) : WL L y d B n pc ls st Y P E :=
  fun z0 X0 u hu => v_seg K s (h u) hc (k z0 X0 u hu) (rokl hd hu)
theorem m_sw (K : ∀ p, chk y p = true) (s : Nat) {Z : Sm} {pc' : Nat} {ls' : Lo} {st' : List Av} {cs' : List Prop} (h : ∀ u, seg allw (zU Y.2 L u (6 * u)) y s pc ls st Y.1 [] = some (pc', ls', st', Z.1, cs')) (hg : Y.2 = Z.2) (hc : allP cs') (k : WL L y d B n pc' ls' st' Z P E) (hd : Nat.ble 4 d = true := by rfl) : WL L y d B n pc ls st Y P E :=
  fun z0 X0 u hu => v_seg K s (h u) hc (by rw [hg]; exact k z0 X0 u hu) (rokl hd hu)
theorem m_ls (l2 : Lo) (h : ∀ q ∈ l2, lget q.1 ls = some q.2) (k : WL L y d B n pc l2 st Y P E) : WL L y d B n pc ls st Y P E := fun z0 X0 u hu => v_ls l2 h (k z0 X0 u hu)
theorem m_icmp_eq (K : ∀ p, chk y p = true) {v a b9 : Int32} {tg c np : Nat} (ht : tb y pc = (64, v, tg, 0, c, np)) (kt : a = b9 → WL L y d B n tg ls st Y P E) (kf : ¬ a = b9 → WL L y d B n np ls st Y P E) : WL L y d B n pc ls (aI b9 :: aI a :: st) Y P E := fun z0 X0 u hu => v_icmp_eq K ht (fun q => kt q z0 X0 u hu) (fun q => kf q z0 X0 u hu)
theorem m_if_eq (K : ∀ p, chk y p = true) {v a : Int32} {tg c np : Nat} (ht : tb y pc = (65, v, tg, 0, c, np)) (kt : a = 0 → WL L y d B n tg ls st Y P E) (kf : ¬ a = 0 → WL L y d B n np ls st Y P E) : WL L y d B n pc ls (aI a :: st) Y P E := fun z0 X0 u hu => v_if_eq K ht (fun q => kt q z0 X0 u hu) (fun q => kf q z0 X0 u hu)
theorem m_icmp_ne (K : ∀ p, chk y p = true) {v a b9 : Int32} {tg c np : Nat} (ht : tb y pc = (64, v, tg, 1, c, np)) (kt : ¬ a = b9 → WL L y d B n tg ls st Y P E) (kf : a = b9 → WL L y d B n np ls st Y P E) : WL L y d B n pc ls (aI b9 :: aI a :: st) Y P E := fun z0 X0 u hu => v_icmp_ne K ht (fun q => kt q z0 X0 u hu) (fun q => kf q z0 X0 u hu)
theorem m_if_ne (K : ∀ p, chk y p = true) {v a : Int32} {tg c np : Nat} (ht : tb y pc = (65, v, tg, 1, c, np)) (kt : ¬ a = 0 → WL L y d B n tg ls st Y P E) (kf : a = 0 → WL L y d B n np ls st Y P E) : WL L y d B n pc ls (aI a :: st) Y P E := fun z0 X0 u hu => v_if_ne K ht (fun q => kt q z0 X0 u hu) (fun q => kf q z0 X0 u hu)
theorem m_icmp_lt (K : ∀ p, chk y p = true) {v a b9 : Int32} {tg c np : Nat} (ht : tb y pc = (64, v, tg, 2, c, np)) (kt : a < b9 → WL L y d B n tg ls st Y P E) (kf : ¬ a < b9 → WL L y d B n np ls st Y P E) : WL L y d B n pc ls (aI b9 :: aI a :: st) Y P E := fun z0 X0 u hu => v_icmp_lt K ht (fun q => kt q z0 X0 u hu) (fun q => kf q z0 X0 u hu)
theorem m_if_lt (K : ∀ p, chk y p = true) {v a : Int32} {tg c np : Nat} (ht : tb y pc = (65, v, tg, 2, c, np)) (kt : a < 0 → WL L y d B n tg ls st Y P E) (kf : ¬ a < 0 → WL L y d B n np ls st Y P E) : WL L y d B n pc ls (aI a :: st) Y P E := fun z0 X0 u hu => v_if_lt K ht (fun q => kt q z0 X0 u hu) (fun q => kf q z0 X0 u hu)
theorem m_icmp_ge (K : ∀ p, chk y p = true) {v a b9 : Int32} {tg c np : Nat} (ht : tb y pc = (64, v, tg, 3, c, np)) (kt : b9 ≤ a → WL L y d B n tg ls st Y P E) (kf : ¬ b9 ≤ a → WL L y d B n np ls st Y P E) : WL L y d B n pc ls (aI b9 :: aI a :: st) Y P E := fun z0 X0 u hu => v_icmp_ge K ht (fun q => kt q z0 X0 u hu) (fun q => kf q z0 X0 u hu)
theorem m_if_ge (K : ∀ p, chk y p = true) {v a : Int32} {tg c np : Nat} (ht : tb y pc = (65, v, tg, 3, c, np)) (kt : 0 ≤ a → WL L y d B n tg ls st Y P E) (kf : ¬ 0 ≤ a → WL L y d B n np ls st Y P E) : WL L y d B n pc ls (aI a :: st) Y P E := fun z0 X0 u hu => v_if_ge K ht (fun q => kt q z0 X0 u hu) (fun q => kf q z0 X0 u hu)
theorem m_icmp_gt (K : ∀ p, chk y p = true) {v a b9 : Int32} {tg c np : Nat} (ht : tb y pc = (64, v, tg, 4, c, np)) (kt : b9 < a → WL L y d B n tg ls st Y P E) (kf : ¬ b9 < a → WL L y d B n np ls st Y P E) : WL L y d B n pc ls (aI b9 :: aI a :: st) Y P E := fun z0 X0 u hu => v_icmp_gt K ht (fun q => kt q z0 X0 u hu) (fun q => kf q z0 X0 u hu)
theorem m_if_gt (K : ∀ p, chk y p = true) {v a : Int32} {tg c np : Nat} (ht : tb y pc = (65, v, tg, 4, c, np)) (kt : 0 < a → WL L y d B n tg ls st Y P E) (kf : ¬ 0 < a → WL L y d B n np ls st Y P E) : WL L y d B n pc ls (aI a :: st) Y P E := fun z0 X0 u hu => v_if_gt K ht (fun q => kt q z0 X0 u hu) (fun q => kf q z0 X0 u hu)
theorem m_icmp_le (K : ∀ p, chk y p = true) {v a b9 : Int32} {tg c np : Nat} (ht : tb y pc = (64, v, tg, 5, c, np)) (kt : a ≤ b9 → WL L y d B n tg ls st Y P E) (kf : ¬ a ≤ b9 → WL L y d B n np ls st Y P E) : WL L y d B n pc ls (aI b9 :: aI a :: st) Y P E := fun z0 X0 u hu => v_icmp_le K ht (fun q => kt q z0 X0 u hu) (fun q => kf q z0 X0 u hu)
theorem m_if_le (K : ∀ p, chk y p = true) {v a : Int32} {tg c np : Nat} (ht : tb y pc = (65, v, tg, 5, c, np)) (kt : a ≤ 0 → WL L y d B n tg ls st Y P E) (kf : ¬ a ≤ 0 → WL L y d B n np ls st Y P E) : WL L y d B n pc ls (aI a :: st) Y P E := fun z0 X0 u hu => v_if_le K ht (fun q => kt q z0 X0 u hu) (fun q => kf q z0 X0 u hu)
theorem m_swAt (K : ∀ p, chk y p = true) (j : Nat) {x : Int32} {v : Int32} {a b9 c np len df lo t : Nat} {ts : List Nat} (ht : tb y pc = (66, v, a, b9, c, np)) (hs : swl.getD a (0, 0, 0, []) = (len, df, lo, ts)) (hb : Nat.ble (lo + ts.length) 1000 = true) (hj : ts[j]? = some t) (hx : x = nI (lo + j)) (k : WL L y d B n t ls st Y P E) : WL L y d B n pc ls (aI x :: st) Y P E := by
  rw [hx]
  exact fun z0 X0 u hu => v_swIn K ht hs (Nat.lt_of_le_of_lt (Nat.le_of_ble_eq_true hb) (by decide)) hj (k z0 X0 u hu)
theorem m_swOut (K : ∀ p, chk y p = true) {v x : Int32} {a b9 c np len df lo : Nat} {ts : List Nat} (ht : tb y pc = (66, v, a, b9, c, np)) (hs : swl.getD a (0, 0, 0, []) = (len, df, lo, ts)) (hb : (Nat.ble (lo + ts.length) 999 && Nat.ble 1 ts.length) = true) (hx : ∀ j, j < ts.length → ¬ x = nI (lo + j)) (k : WL L y d B n df ls st Y P E) : WL L y d B n pc ls (aI x :: st) Y P E := by
  obtain ⟨b1, b2⟩ := Bool.and_eq_true_iff.mp hb
  have b1 := Nat.le_of_ble_eq_true b1
  have b2 := Nat.le_of_ble_eq_true b2
  refine fun z0 X0 u hu => v_swOut K ht hs ?_ (k z0 X0 u hu)
  rcases sw_out (x := x) (lo := lo) ts.length (by omega) hx with q | q
  · exact Or.inl q
  · right
    omega
theorem m_cV1 {b' : Nat} (K : ∀ p, chk y p = true) {v9 : Int32} {a c np y' d' k9 i9 c9 n9 : Nat} {As stk : List Av} {v : Av} {Y' : Sm} {E' : Nat → Sm → Prop} (hC : ML L d' b' y' (aR k9 i9 :: As) Y (Rt (some v) Y') E') (hE : ∀ x Z, ¬ E' x Z) (ht : tb y pc = (81, v9, a, y', c, np)) (hs : stk = rapp (aR k9 i9 :: As) st) (kk : WL L y d B n np ls (v :: st) Y' P E)
    (hsh : shp k9 = (0, c9, n9) := by rfl) (hcl : (vck c9).1 = RN (cid y') := by rfl) (hc9 : Nat.ble (c9 + 1) vcl.length = true := by rfl) (hlen : As.length = npl.getD y' 0 := by rfl) (hd : Nat.ble (d' + 1) d = true := by rfl) (hst : Nat.ble st.length 4 = true := by rfl) : WL L y d B (n + b') pc ls stk Y P E := by
  intro z0 X0 u hu
  refine v_callV K ht hC hsh hcl hc9 hs ⟨rfl, rfl, rfl⟩ (fun _ _ h => h) hlen hd ?_ hst (fun w z2 X2 h _ => ?_) (fun x z2 X2 h _ => ?_)
  · show (Nat.ble (u + b') B && Nat.ble (6 * u + 6 * b') (6 * B)) = true
    rw [Nat.ble_eq_true_of_le (by omega : u + b' ≤ B), Nat.ble_eq_true_of_le (by omega : 6 * u + 6 * b' ≤ 6 * B)]
    rfl
  · obtain ⟨g, h1, h2, rfl, rfl⟩ := h
    rw [h1, h2]
    have k9 := kk z0 X0 (u + b') (by omega)
    rw [Nat.mul_add] at k9
    exact k9
  · obtain ⟨g, h1, h2, h3⟩ := h
    exact (hE _ _ h3).elim
theorem m_cV0 {b' : Nat} (K : ∀ p, chk y p = true) {v9 : Int32} {a c np y' d' k9 i9 c9 n9 : Nat} {As stk : List Av} {Y' : Sm} {E' : Nat → Sm → Prop} (hC : ML L d' b' y' (aR k9 i9 :: As) Y (Rt none Y') E') (hE : ∀ x Z, ¬ E' x Z) (ht : tb y pc = (81, v9, a, y', c, np)) (hs : stk = rapp (aR k9 i9 :: As) st) (kk : WL L y d B n np ls st Y' P E)
    (hsh : shp k9 = (0, c9, n9) := by rfl) (hcl : (vck c9).1 = RN (cid y') := by rfl) (hc9 : Nat.ble (c9 + 1) vcl.length = true := by rfl) (hlen : As.length = npl.getD y' 0 := by rfl) (hd : Nat.ble (d' + 1) d = true := by rfl) (hst : Nat.ble st.length 4 = true := by rfl) : WL L y d B (n + b') pc ls stk Y P E := by
  intro z0 X0 u hu
  refine v_callV K ht hC hsh hcl hc9 hs ⟨rfl, rfl, rfl⟩ (fun _ _ h => h) hlen hd ?_ hst (fun w z2 X2 h _ => ?_) (fun x z2 X2 h _ => ?_)
  · show (Nat.ble (u + b') B && Nat.ble (6 * u + 6 * b') (6 * B)) = true
    rw [Nat.ble_eq_true_of_le (by omega : u + b' ≤ B), Nat.ble_eq_true_of_le (by omega : 6 * u + 6 * b' ≤ 6 * B)]
    rfl
  · obtain ⟨g, h1, h2, rfl, rfl⟩ := h
    rw [h1, h2]
    have k9 := kk z0 X0 (u + b') (by omega)
    rw [Nat.mul_add] at k9
    exact k9
  · obtain ⟨g, h1, h2, h3⟩ := h
    exact (hE _ _ h3).elim
theorem m_cS1 {b' : Nat} (K : ∀ p, chk y p = true) {v9 : Int32} {a c np y' d' : Nat} {As stk : List Av} {v : Av} {Y' : Sm} {E' : Nat → Sm → Prop} (hC : ML L d' b' y' As Y (Rt (some v) Y') E') (hE : ∀ x Z, ¬ E' x Z) (ht : tb y pc = (80, v9, a, y', c, np)) (hs : stk = rapp As st) (kk : WL L y d B n np ls (v :: st) Y' P E)
    (hy' : Nat.ble y' 299 = true := by rfl) (hlen : As.length = npl.getD y' 0 := by rfl) (hd : Nat.ble (d' + 1) d = true := by rfl) (hst : Nat.ble st.length 4 = true := by rfl) : WL L y d B (n + b') pc ls stk Y P E := by
  intro z0 X0 u hu
  refine v_callS K ht hC hy' hs ⟨rfl, rfl, rfl⟩ (fun _ _ h => h) hlen hd ?_ hst (fun w z2 X2 h _ => ?_) (fun x z2 X2 h _ => ?_)
  · show (Nat.ble (u + b') B && Nat.ble (6 * u + 6 * b') (6 * B)) = true
    rw [Nat.ble_eq_true_of_le (by omega : u + b' ≤ B), Nat.ble_eq_true_of_le (by omega : 6 * u + 6 * b' ≤ 6 * B)]
    rfl
  · obtain ⟨g, h1, h2, rfl, rfl⟩ := h
    rw [h1, h2]
    have k9 := kk z0 X0 (u + b') (by omega)
    rw [Nat.mul_add] at k9
    exact k9
  · obtain ⟨g, h1, h2, h3⟩ := h
    exact (hE _ _ h3).elim
theorem m_cS0 {b' : Nat} (K : ∀ p, chk y p = true) {v9 : Int32} {a c np y' d' : Nat} {As stk : List Av} {Y' : Sm} {E' : Nat → Sm → Prop} (hC : ML L d' b' y' As Y (Rt none Y') E') (hE : ∀ x Z, ¬ E' x Z) (ht : tb y pc = (80, v9, a, y', c, np)) (hs : stk = rapp As st) (kk : WL L y d B n np ls st Y' P E)
    (hy' : Nat.ble y' 299 = true := by rfl) (hlen : As.length = npl.getD y' 0 := by rfl) (hd : Nat.ble (d' + 1) d = true := by rfl) (hst : Nat.ble st.length 4 = true := by rfl) : WL L y d B (n + b') pc ls stk Y P E := by
  intro z0 X0 u hu
  refine v_callS K ht hC hy' hs ⟨rfl, rfl, rfl⟩ (fun _ _ h => h) hlen hd ?_ hst (fun w z2 X2 h _ => ?_) (fun x z2 X2 h _ => ?_)
  · show (Nat.ble (u + b') B && Nat.ble (6 * u + 6 * b') (6 * B)) = true
    rw [Nat.ble_eq_true_of_le (by omega : u + b' ≤ B), Nat.ble_eq_true_of_le (by omega : 6 * u + 6 * b' ≤ 6 * B)]
    rfl
  · obtain ⟨g, h1, h2, rfl, rfl⟩ := h
    rw [h1, h2]
    have k9 := kk z0 X0 (u + b') (by omega)
    rw [Nat.mul_add] at k9
    exact k9
  · obtain ⟨g, h1, h2, h3⟩ := h
    exact (hE _ _ h3).elim
theorem m_ireturn (K : ∀ p, chk y p = true) {v : Int32} {a b9 c np : Nat} {x : Int32} (hq : P (some (aI x)) Y) (ht : tb y pc = (70, v, a, b9, c, np) := by rfl) (hrt : rtt y = some .int := by rfl) (hd : Nat.ble 4 d = true := by rfl) : WL L y d B n pc ls [aI x] Y P E := fun z0 X0 u hu => v_ireturn K ht hrt ⟨Y.2, rfl, rfl, hq⟩ (rokl hd hu)
theorem m_zreturn (K : ∀ p, chk y p = true) {v : Int32} {a b9 c np : Nat} {x : Int32} (hx : x = 0 ∨ x = 1) (hq : P (some (aI x)) Y) (ht : tb y pc = (70, v, a, b9, c, np) := by rfl) (hrt : rtt y = some .boolean := by rfl) (hd : Nat.ble 4 d = true := by rfl) : WL L y d B n pc ls [aI x] Y P E := fun z0 X0 u hu => v_zreturn K ht hrt hx ⟨Y.2, rfl, rfl, hq⟩ (rokl hd hu)
theorem m_return (K : ∀ p, chk y p = true) {v : Int32} {a b9 c np : Nat} (hq : P none Y) (ht : tb y pc = (74, v, a, b9, c, np) := by rfl) (hrt : rtt y = none := by rfl) (hd : Nat.ble 4 d = true := by rfl) : WL L y d B n pc ls [] Y P E := fun z0 X0 u hu => v_return K ht hrt ⟨Y.2, rfl, rfl, hq⟩ (rokl hd hu)
end LM
theorem nX_no (x : Nat) (Z : Sm) : ¬ nX x Z := fun h => h
theorem Ez_no {α : Type} {v : α} {W : Sm} (x : Nat) (Z : Sm) : ¬ Ez (Sum.inl v : α ⊕ Nat) W x Z := fun h => h
/-- a call that throws nothing -/
def bl {α ρ : Type} (m : Option ((α ⊕ Nat) × Sm)) (k : α → Sm → Option ρ) : Option ρ :=
  match m with
  | some (.inl v, Z) => k v Z
  | _ => none
theorem bl_some {α ρ : Type} {m : Option ((α ⊕ Nat) × Sm)} {k : α → Sm → Option ρ} {r : ρ} (h : bl m k = some r) : ∃ v Z, m = some (.inl v, Z) ∧ k v Z = some r := by
  match m, h with
  | some (.inl v, Z), h => exact ⟨v, Z, rfl, h⟩
theorem bl_e {α ρ : Type} {m : Option ((α ⊕ Nat) × Sm)} {v : α} {Z : Sm} {k : α → Sm → Option ρ} (e : m = some (.inl v, Z)) : bl m k = k v Z := by rw [e]; rfl
