/-! cells are made (printed by wip/whole/gen23.py) -/
def adN (ad : Nat → Nat → Nat) (z : Zz) (k q : Nat) : Nat → Nat → Nat := fun a b => if a = k ∧ b = z.1 k then q else ad a b
/-- one cell of kind k more -/
def zN (z : Zz) (k n : Nat) : Zz := (fun a => if a = k then z.1 k + 1 else z.1 a, fun a b j => if a = k ∧ b = z.1 k then none else z.2.1 a b j, z.2.2.1, z.2.2.2.1 + 1, z.2.2.2.2 + n)
theorem zN_ro {z : Zz} {k n a b j : Nat} (h : b < z.1 a) : (zN z k n).2.1 a b j = z.2.1 a b j := if_neg fun e => by
  obtain ⟨e1, e2⟩ := e
  subst e1
  omega
theorem zN_rn {z : Zz} {k n j : Nat} : (zN z k n).2.1 k (z.1 k) j = none := if_pos ⟨rfl, rfl⟩
theorem zN_lt {z : Zz} {k n a b : Nat} : b < (zN z k n).1 a ↔ b < z.1 a ∨ (a = k ∧ b = z.1 k) := by
  show b < (if a = k then z.1 k + 1 else z.1 a) ↔ _
  by_cases h : a = k
  · subst h
    rw [if_pos rfl]
    omega
  · rw [if_neg h]
    exact ⟨Or.inl, fun q => q.elim id (fun q => absurd q.1 h)⟩
theorem adN_new {ad : Nat → Nat → Nat} {z : Zz} {k q : Nat} : adN ad z k q k (z.1 k) = q := if_pos ⟨rfl, rfl⟩
theorem adN_old {ad : Nat → Nat → Nat} {z : Zz} {k q a b : Nat} (h : b < z.1 a) : adN ad z k q a b = ad a b := if_neg fun e => by
  obtain ⟨e1, e2⟩ := e
  subst e1
  omega
theorem Cu.grow {G : Gp} {ad0 ad : Nat → Nat → Nat} {wp : Nat → Nat → Prop} {z0 z : Zz} {X0 X : Mm} {s : State} {H H1 : Heap} {locs : List Loc} {cells slots : Nat} (U : Cu G ad0 wp z0 X0 s ad z X H locs cells slots) (k n : Nat) (hne : z.1 ≠ nF) (hz1 : H1.size = H.size + 1) (ho : ∀ q : Nat, q < H.size → H1[q]? = H[q]?) (h6 : Nat.beq k 68 = false) (e : va_at G.1 vcl (H.size, cel G (adN ad z k H.size) (zN z k n) X k (z.1 k)) H1) :
    Cu G ad0 wp z0 X0 s (adN ad z k H.size) (zN z k n) X H1 locs (cells + 1) (slots + n) := by
  obtain ⟨⟨h1, h2, h3, h4, h5⟩, hdf, hold, hnew, hag, hS, hc, hs, hL, hA⟩ := U
  have hD := hdf.resolve_left hne
  have hlt : ∀ a b, b < z.1 a → ad a b < H.size := fun a b hb => (h1 a b hb).lt
  refine ⟨⟨fun a b hb => ?_, fun a b a' b' hb hb' he => ?_, fun a b hb ha => ?_, by omega, fun a b j q hb hj hq => ?_⟩, Or.inr fun a b hb j => hD a b ?_ j, fun a b hb => ?_, fun a b hb1 hb2 => ?_, hag, ⟨by have := hS.1; omega, fun x g1 g2 => (ho x (Nat.lt_of_lt_of_le g1 hS.1)).trans (hS.2.1 x g1 g2), hS.2.2⟩, Nat.succ_le_succ hc, Nat.add_le_add_right hs n, hL, hA⟩
  · rcases zN_lt.mp hb with q | ⟨rfl, rfl⟩
    · rw [adN_old q]
      refine cat.ext (z := z) (ad := ad) (X := X) rfl (fun j hj => ⟨rfl, rfl, rfl, ?_⟩) ((h1 a b q).kept (ho _ (hlt a b q)))
      show adq (adN ad z k H.size) ((zN z k n).2.1 a b j) = adq ad (z.2.1 a b j)
      rw [zN_ro q]
      cases hr : z.2.1 a b j with
      | none => rfl
      | some r => exact congrArg some (adN_old (h5 a b j r q hj hr))
    · rw [adN_new]; exact .of h6 e
  · rcases zN_lt.mp hb with q | ⟨rfl, rfl⟩
    · rcases zN_lt.mp hb' with q' | ⟨rfl, rfl⟩
      · rw [adN_old q, adN_old q'] at he
        exact h2 a b a' b' q q' he
      · rw [adN_old q, adN_new] at he
        exact absurd (hlt a b q) (by omega)
    · rcases zN_lt.mp hb' with q' | ⟨rfl, rfl⟩
      · rw [adN_new, adN_old q'] at he
        exact absurd (hlt a' b' q') (by omega)
      · exact ⟨rfl, rfl⟩
  · rcases zN_lt.mp hb with q | ⟨rfl, rfl⟩
    · rw [adN_old q]; exact h3 a b q ha
    · rw [adN_new]; exact h4
  · rcases zN_lt.mp hb with g | ⟨rfl, rfl⟩
    · rw [zN_ro g] at hq
      exact zN_lt.mpr (Or.inl (h5 a b j q g hj hq))
    · rw [zN_rn] at hq
      cases hq
  · exact Nat.le_of_not_lt fun q => absurd (zN_lt.mpr (Or.inl q)) (Nat.not_lt.mpr hb)
  · obtain ⟨g1, g2⟩ := hold a b hb
    rw [adN_old g2]
    exact ⟨g1, zN_lt.mpr (Or.inl g2)⟩
  · rcases zN_lt.mp hb2 with q | ⟨rfl, rfl⟩
    · rw [adN_old q]; exact hnew a b hb1 q
    · rw [adN_new]; exact hS.1
theorem vck_ini : ∀ c, c < vcl.length → ∃ j, j < 21 ∧ (vck c).1 = RN j := by decide +kernel
theorem CMd_all : ∀ c, c < vcl.length → c ∈ CMd := by decide +kernel
theorem refKind_null {t : FieldType} (h : refKind t = true) : defaultValue t = .null := by
  cases t <;> first | rfl | (simp [refKind] at h)
section NEW
variable {y : Nat} {xt : List ExceptionTableEntry} {d mc ms : Nat} {wp : Nat → Nat → Prop} {z0 : Zz} {X0 : Mm} {QR : Option Av → Zz → Mm → Prop} {QX : Nat → Zz → Mm → Prop} {z : Zz} {pc : Nat} {ls : Lo} {st : List Av} {X : Mm}
theorem v_newO (K : ∀ p, chk y p = true) {v9 : Int32} {a c9 cc np : Nat} (k : Nat) {n : Nat} (ht : tb y pc = (90, v9, a, c9, cc, np)) (hk : shp k = (0, c9, n)) (hn : (vck c9).2.2 = n) (hc9 : Nat.ble (c9 + 1) vcl.length = true) (hne : z.1 ≠ nF) (hr : (Nat.ble (z.2.2.2.1 + 1) mc && Nat.ble (z.2.2.2.2 + n) ms) = true)
    (kk : V y xt d mc ms wp z0 X0 QR QX (zN z k n) np ls (aR k (z.1 k) :: st) X) : V y xt d mc ms wp z0 X0 QR QX z pc ls st X := by
  intro l G ad0 p e s m args below meth c0 C ad H locs cells slots la U hl ol os
  obtain ⟨h1, h2, h3⟩ := chk_sp K ht rfl
  have h3 : np = pc + 3 := h3.elim (fun q => by cases q) id
  subst h3
  obtain ⟨hr1, hr2⟩ := Bool.and_eq_true_iff.mp hr
  have hr1 := Nat.le_of_ble_eq_true hr1
  have hr2 := Nat.le_of_ble_eq_true hr2
  have hc1 := U.2.2.2.2.2.2.1
  have hc2 := U.2.2.2.2.2.2.2.1
  have hcl := Nat.le_of_ble_eq_true hc9
  have hlk : (cid y, a, c9) ∈ CLd := of_decide_eq_true h2
  have hts := C.2.2.2.2.1
  have hK := C.2.2.2.2.2.2.2.2.2.2.1.1
  have hKn := hK.1 c9 _ (vcl_at hcl)
  obtain ⟨j9, hj9, hj⟩ := vck_ini c9 hcl
  have hins : (Cond.instantiable (vck c9).1 n).before args s = true := by have := hts _ (CMd_in c9 (CMd_all c9 hcl)); rw [← hn]; exact this
  have hini : (Cond.initialized (vck c9).1).before args s = true := by rw [hj]; exact hts _ (IZd_in _ (iz_ok _ hj9))
  refine W.newcK C.1 C.2.1 C.2.2.2.1 (hts _ (CLd_in _ hlk)) hins hini rfl h1 (by show cells + 1 ≤ mc; omega) (by show slots + n ≤ ms; omega) hKn.2.1 rfl fun H1 kC hkC e1 z1 o1 => ?_
  have hD := U.2.1.resolve_left hne
  have hU : Cu G ad0 wp z0 X0 s (adN ad z k H.size) (zN z k n) X H1 locs (cells + 1) (slots + n) := U.grow k n hne z1 o1 (n68 hk rfl) (by
    rw [cel_o hk]
    refine ⟨vck c9, vcl_at hcl, (u_born (vty c9) hts (lay_in hcl) hKn hkC e1 (vty_ok c9 hcl)).to (fun j hj => ?_)⟩
    obtain ⟨d1, d2, d3⟩ := hD k (z.1 k) (Nat.le_refl _) j
    have hjn : j < n := by rw [← hn]; exact hj
    show defaultValue (vty c9 j) = ((List.range n).map (fv (adN ad z k H.size) (zN z k n) X k (z.1 k) c9)).getD j .null
    rw [List.getD_eq_getElem?_getD, fv_at hjn]
    show defaultValue (vty c9 j) = fv (adN ad z k H.size) (zN z k n) X k (z.1 k) c9 j
    have d4 : (zN z k n).2.1 k (z.1 k) j = none := zN_rn
    rcases vft_ok c9 hcl j hj with ⟨q1, q2⟩ | ⟨q1, q2⟩ | ⟨q1, q2⟩ | ⟨q1, q3, q4⟩
    · rw [q2]; simp only [fv, q1, d1]; rfl
    · rw [q2]; simp only [fv, q1, d1]; rfl
    · rw [q2]; simp only [fv, q1, d2]; rfl
    · rcases q1 with q1 | q1
      · rw [refKind_null (q3 q1)]; simp only [fv, q1, d4]; rfl
      · rw [q4 q1]; simp only [fv, q1, d1]; rfl)
  have he : ∀ a b, b < z.1 a → adN ad z k H.size a b = ad a b := fun a b h => adN_old h
  have hup : ∀ a b, b < z.1 a → b < (zN z k n).1 a := fun a b h => zN_lt.mpr (Or.inl h)
  have := kk l G ad0 p e s m args below meth c0 C (adN ad z k H.size) H1 locs (cells + 1) (slots + n) la hU (by rw [cvl_ad ol he]; exact hl) (fun q hq => (ol q hq).up hup) (oks_c (by show z.1 k < (zN z k n).1 k; exact zN_lt.mpr (Or.inr ⟨rfl, rfl⟩)) (fun v hv => (os v hv).up hup))
  rw [List.map_cons, cvs_ad os he] at this
  have e9 : cv G (adN ad z k H.size) (aR k (z.1 k)) = .ref H.size := congrArg Value.ref adN_new
  rw [e9] at this
  exact this
theorem v_newAI (K : ∀ p, chk y p = true) {v9 x : Int32} {b cc np : Nat} (k : Nat) {n : Nat} (ht : tb y pc = (91, v9, 0, b, cc, np)) (hk : shp k = (1, 0, n)) (hk8 : Nat.beq k 68 = false) (hx : x = nI n) (hn : Nat.ble n 60000 = true) (hne : z.1 ≠ nF) (hr : (Nat.ble (z.2.2.2.1 + 1) mc && Nat.ble (z.2.2.2.2 + n) ms) = true)
    (kk : V y xt d mc ms wp z0 X0 QR QX (zN z k n) np ls (aR k (z.1 k) :: st) X) : V y xt d mc ms wp z0 X0 QR QX z pc ls (aI x :: st) X := by
  intro l G ad0 p e s m args below meth c0 C ad H locs cells slots la U hl ol os
  obtain ⟨h1, -, h3⟩ := chk_sp K ht rfl
  have h3 : np = pc + 2 := h3.elim (fun q => by cases q) id
  subst h3
  subst hx
  obtain ⟨hr1, hr2⟩ := Bool.and_eq_true_iff.mp hr
  have hr1 := Nat.le_of_ble_eq_true hr1
  have hr2 := Nat.le_of_ble_eq_true hr2
  have hn := Nat.le_of_ble_eq_true hn
  have hc1 := U.2.2.2.2.2.2.1
  have hc2 := U.2.2.2.2.2.2.2.1
  have hts := C.2.2.2.2.1
  have hK := C.2.2.2.2.2.2.2.2.2.2.1.1
  have hRA := (hK.2 0 _ rfl).2
  have hD := U.2.1.resolve_left hne
  refine va_newaK (atype := .int) C.1 C.2.1 (hts _ fx_acI) rfl h1 rfl (nI_pos (by omega)) (nI_clamp (by omega)) (by show n * _ ≤ _; simp only [newarray.typeOf, componentBytes]; omega) (by show cells + 1 ≤ mc; omega) (by show slots + n ≤ ms; omega) rfl fun H1 cA e1 z1 o1 hAr hNm => ?_
  have hcA : cA = G.2.1 0 := Option.some.inj (hNm.symm.trans hRA)
  subst hcA
  have hU : Cu G ad0 wp z0 X0 s (adN ad z k H.size) (zN z k n) X H1 locs (cells + 1) (slots + n) := U.grow k n hne z1 o1 (n68 hk rfl) (by
    have hal : aln (zN z k n) k = n := by unfold aln; rw [hk8, hk]; rfl
    rw [cel_a hk, hal]
    show H1[H.size]? = some (arrV (G.2.1 0) n (fun j => Value.int (gI X k (z.1 k) j)))
    rw [e1]
    refine congrArg some (arrV_cg (fun j hj => ?_))
    obtain ⟨d1, d2, d3⟩ := hD k (z.1 k) (Nat.le_refl _) j
    show _ = Value.int (gI X k (z.1 k) j)
    rw [d1]
    rfl)
  have he : ∀ a b, b < z.1 a → adN ad z k H.size a b = ad a b := fun a b h => adN_old h
  have hup : ∀ a b, b < z.1 a → b < (zN z k n).1 a := fun a b h => zN_lt.mpr (Or.inl h)
  have os := oks_t os
  have := kk l G ad0 p e s m args below meth c0 C (adN ad z k H.size) H1 locs (cells + 1) (slots + n) la hU (by rw [cvl_ad ol he]; exact hl) (fun q hq => (ol q hq).up hup) (oks_c (by show z.1 k < (zN z k n).1 k; exact zN_lt.mpr (Or.inr ⟨rfl, rfl⟩)) (fun v hv => (os v hv).up hup))
  rw [List.map_cons, cvs_ad os he] at this
  have e9 : cv G (adN ad z k H.size) (aR k (z.1 k)) = .ref H.size := congrArg Value.ref adN_new
  rw [e9] at this
  exact this
theorem v_newAB (K : ∀ p, chk y p = true) {v9 x : Int32} {b cc np : Nat} (k : Nat) {n : Nat} (ht : tb y pc = (91, v9, 1, b, cc, np)) (hk : shp k = (1, 1, n)) (hk8 : Nat.beq k 68 = false) (hx : x = nI n) (hn : Nat.ble n 60000 = true) (hne : z.1 ≠ nF) (hr : (Nat.ble (z.2.2.2.1 + 1) mc && Nat.ble (z.2.2.2.2 + n) ms) = true)
    (kk : V y xt d mc ms wp z0 X0 QR QX (zN z k n) np ls (aR k (z.1 k) :: st) X) : V y xt d mc ms wp z0 X0 QR QX z pc ls (aI x :: st) X := by
  intro l G ad0 p e s m args below meth c0 C ad H locs cells slots la U hl ol os
  obtain ⟨h1, -, h3⟩ := chk_sp K ht rfl
  have h3 : np = pc + 2 := h3.elim (fun q => by cases q) id
  subst h3
  subst hx
  obtain ⟨hr1, hr2⟩ := Bool.and_eq_true_iff.mp hr
  have hr1 := Nat.le_of_ble_eq_true hr1
  have hr2 := Nat.le_of_ble_eq_true hr2
  have hn := Nat.le_of_ble_eq_true hn
  have hc1 := U.2.2.2.2.2.2.1
  have hc2 := U.2.2.2.2.2.2.2.1
  have hts := C.2.2.2.2.1
  have hK := C.2.2.2.2.2.2.2.2.2.2.1.1
  have hRA := (hK.2 1 _ rfl).2
  have hD := U.2.1.resolve_left hne
  refine va_newaK (atype := .byte) C.1 C.2.1 (hts _ fx_acB) rfl h1 rfl (nI_pos (by omega)) (nI_clamp (by omega)) (by show n * _ ≤ _; simp only [newarray.typeOf, componentBytes]; omega) (by show cells + 1 ≤ mc; omega) (by show slots + n ≤ ms; omega) rfl fun H1 cA e1 z1 o1 hAr hNm => ?_
  have hcA : cA = G.2.1 1 := Option.some.inj (hNm.symm.trans hRA)
  subst hcA
  have hU : Cu G ad0 wp z0 X0 s (adN ad z k H.size) (zN z k n) X H1 locs (cells + 1) (slots + n) := U.grow k n hne z1 o1 (n68 hk rfl) (by
    have hal : aln (zN z k n) k = n := by unfold aln; rw [hk8, hk]; rfl
    rw [cel_a hk, hal]
    show H1[H.size]? = some (arrV (G.2.1 1) n (fun j => Value.int (gI X k (z.1 k) j)))
    rw [e1]
    refine congrArg some (arrV_cg (fun j hj => ?_))
    obtain ⟨d1, d2, d3⟩ := hD k (z.1 k) (Nat.le_refl _) j
    show _ = Value.int (gI X k (z.1 k) j)
    rw [d1]
    rfl)
  have he : ∀ a b, b < z.1 a → adN ad z k H.size a b = ad a b := fun a b h => adN_old h
  have hup : ∀ a b, b < z.1 a → b < (zN z k n).1 a := fun a b h => zN_lt.mpr (Or.inl h)
  have os := oks_t os
  have := kk l G ad0 p e s m args below meth c0 C (adN ad z k H.size) H1 locs (cells + 1) (slots + n) la hU (by rw [cvl_ad ol he]; exact hl) (fun q hq => (ol q hq).up hup) (oks_c (by show z.1 k < (zN z k n).1 k; exact zN_lt.mpr (Or.inr ⟨rfl, rfl⟩)) (fun v hv => (os v hv).up hup))
  rw [List.map_cons, cvs_ad os he] at this
  have e9 : cv G (adN ad z k H.size) (aR k (z.1 k)) = .ref H.size := congrArg Value.ref adN_new
  rw [e9] at this
  exact this
theorem v_newAL (K : ∀ p, chk y p = true) {v9 x : Int32} {b cc np : Nat} (k : Nat) {n : Nat} (ht : tb y pc = (91, v9, 2, b, cc, np)) (hk : shp k = (1, 2, n)) (hk8 : Nat.beq k 68 = false) (hx : x = nI n) (hn : Nat.ble n 60000 = true) (hne : z.1 ≠ nF) (hr : (Nat.ble (z.2.2.2.1 + 1) mc && Nat.ble (z.2.2.2.2 + n) ms) = true)
    (kk : V y xt d mc ms wp z0 X0 QR QX (zN z k n) np ls (aR k (z.1 k) :: st) X) : V y xt d mc ms wp z0 X0 QR QX z pc ls (aI x :: st) X := by
  intro l G ad0 p e s m args below meth c0 C ad H locs cells slots la U hl ol os
  obtain ⟨h1, -, h3⟩ := chk_sp K ht rfl
  have h3 : np = pc + 2 := h3.elim (fun q => by cases q) id
  subst h3
  subst hx
  obtain ⟨hr1, hr2⟩ := Bool.and_eq_true_iff.mp hr
  have hr1 := Nat.le_of_ble_eq_true hr1
  have hr2 := Nat.le_of_ble_eq_true hr2
  have hn := Nat.le_of_ble_eq_true hn
  have hc1 := U.2.2.2.2.2.2.1
  have hc2 := U.2.2.2.2.2.2.2.1
  have hts := C.2.2.2.2.1
  have hK := C.2.2.2.2.2.2.2.2.2.2.1.1
  have hRA := (hK.2 2 _ rfl).2
  have hD := U.2.1.resolve_left hne
  refine va_newaK (atype := .long) C.1 C.2.1 (hts _ fx_acJ) rfl h1 rfl (nI_pos (by omega)) (nI_clamp (by omega)) (by show n * _ ≤ _; simp only [newarray.typeOf, componentBytes]; omega) (by show cells + 1 ≤ mc; omega) (by show slots + n ≤ ms; omega) rfl fun H1 cA e1 z1 o1 hAr hNm => ?_
  have hcA : cA = G.2.1 2 := Option.some.inj (hNm.symm.trans hRA)
  subst hcA
  have hU : Cu G ad0 wp z0 X0 s (adN ad z k H.size) (zN z k n) X H1 locs (cells + 1) (slots + n) := U.grow k n hne z1 o1 (n68 hk rfl) (by
    have hal : aln (zN z k n) k = n := by unfold aln; rw [hk8, hk]; rfl
    rw [cel_a hk, hal]
    show H1[H.size]? = some (arrV (G.2.1 2) n (fun j => Value.long (gJ X k (z.1 k) j)))
    rw [e1]
    refine congrArg some (arrV_cg (fun j hj => ?_))
    obtain ⟨d1, d2, d3⟩ := hD k (z.1 k) (Nat.le_refl _) j
    show _ = Value.long (gJ X k (z.1 k) j)
    rw [d2]
    rfl)
  have he : ∀ a b, b < z.1 a → adN ad z k H.size a b = ad a b := fun a b h => adN_old h
  have hup : ∀ a b, b < z.1 a → b < (zN z k n).1 a := fun a b h => zN_lt.mpr (Or.inl h)
  have os := oks_t os
  have := kk l G ad0 p e s m args below meth c0 C (adN ad z k H.size) H1 locs (cells + 1) (slots + n) la hU (by rw [cvl_ad ol he]; exact hl) (fun q hq => (ol q hq).up hup) (oks_c (by show z.1 k < (zN z k n).1 k; exact zN_lt.mpr (Or.inr ⟨rfl, rfl⟩)) (fun v hv => (os v hv).up hup))
  rw [List.map_cons, cvs_ad os he] at this
  have e9 : cv G (adN ad z k H.size) (aR k (z.1 k)) = .ref H.size := congrArg Value.ref adN_new
  rw [e9] at this
  exact this
end NEW
