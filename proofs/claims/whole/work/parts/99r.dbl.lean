/-! an array of doubles is made -/
section DBL
variable {y : Nat} {xt : List ExceptionTableEntry} {d mc ms : Nat} {wp : Nat → Nat → Prop} {z0 : Zz} {X0 : Mm} {QR : Option Av → Zz → Mm → Prop} {QX : Nat → Zz → Mm → Prop} {z : Zz} {pc : Nat} {ls : Lo} {st : List Av} {X : Mm}
theorem v_newAD (K : ∀ p, chk y p = true) {v9 x : Int32} {b cc np : Nat} (k : Nat) {n : Nat} (ht : tb y pc = (91, v9, 3, b, cc, np)) (hk : shp k = (1, 3, n)) (hk8 : Nat.beq k 68 = false) (hx : x = nI n) (hn : Nat.ble n 60000 = true) (hne : z.1 ≠ nF) (hr : (Nat.ble (z.2.2.2.1 + 1) mc && Nat.ble (z.2.2.2.2 + n) ms) = true)
    (kk : V y xt d mc ms wp z0 X0 QR QX (zN z k n) np ls (aR k (z.1 k) :: st) X) : V y xt d mc ms wp z0 X0 QR QX z pc ls (aI x :: st) X := by
  intro l G ad0 p e s m args below meth c0 C ad H locs cells slots la U hl ol os
  obtain ⟨h1, -, h3⟩ := chk_sp K ht rfl
  have h3 : np = pc + 2 := h3.elim (fun q => by cases q) id
  subst h3
  subst hx
  obtain ⟨hr1, hr2⟩ := Bool.and_eq_true_iff.mp hr
  have hr1 := Nat.le_of_ble_eq_true hr1
  have hr2 := Nat.le_of_ble_eq_true hr2
  have hn := Nat.le_of_ble_eq_true hn
  have hc1 := U.2.2.2.2.2.2.1
  have hc2 := U.2.2.2.2.2.2.2.1
  have hts := C.2.2.2.2.1
  have hK := C.2.2.2.2.2.2.2.2.2.2.1.1
  have hRA := (hK.2 3 _ rfl).2
  have hD := U.2.1.resolve_left hne
  refine va_newaK (atype := .double) C.1 C.2.1 (hts _ fx_acD) rfl h1 rfl (nI_pos (by omega)) (nI_clamp (by omega)) (by show n * _ ≤ _; simp only [newarray.typeOf, componentBytes]; omega) (by show cells + 1 ≤ mc; omega) (by show slots + n ≤ ms; omega) rfl fun H1 cA e1 z1 o1 hAr hNm => ?_
  have hcA : cA = G.2.1 3 := Option.some.inj (hNm.symm.trans hRA)
  subst hcA
  have hU : Cu G ad0 wp z0 X0 s (adN ad z k H.size) (zN z k n) X H1 locs (cells + 1) (slots + n) := U.grow k n hne z1 o1 (n68 hk rfl) (by
    have hal : aln (zN z k n) k = n := by unfold aln; rw [hk8, hk]; rfl
    rw [cel_a hk, hal]
    show H1[H.size]? = some (arrV (G.2.1 3) n (fun j => Value.double (gD X k (z.1 k) j)))
    rw [e1]
    refine congrArg some (arrV_cg (fun j hj => ?_))
    obtain ⟨d1, d2, d3⟩ := hD k (z.1 k) (Nat.le_refl _) j
    show _ = Value.double (gD X k (z.1 k) j)
    rw [d3]
    rfl)
  have he : ∀ a b, b < z.1 a → adN ad z k H.size a b = ad a b := fun a b h => adN_old h
  have hup : ∀ a b, b < z.1 a → b < (zN z k n).1 a := fun a b h => zN_lt.mpr (Or.inl h)
  have os := oks_t os
  have := kk l G ad0 p e s m args below meth c0 C (adN ad z k H.size) H1 locs (cells + 1) (slots + n) la hU (by rw [cvl_ad ol he]; exact hl) (fun q hq => (ol q hq).up hup) (oks_c (by show z.1 k < (zN z k n).1 k; exact zN_lt.mpr (Or.inr ⟨rfl, rfl⟩)) (fun v hv => (os v hv).up hup))
  rw [List.map_cons, cvs_ad os he] at this
  have e9 : cv G (adN ad z k H.size) (aR k (z.1 k)) = .ref H.size := congrArg Value.ref adN_new
  rw [e9] at this
  exact this
end DBL
