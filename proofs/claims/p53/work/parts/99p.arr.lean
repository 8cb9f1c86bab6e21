/-! arrays of references are made -/
theorem fx_clH : Cond.classLink "BallotBus$History" 9 "BallotBus$State" ∈ TT := TT_in (tp2 (List.mem_of_getElem? (i := 84) (by decide +kernel))) rfl
theorem fx_clR : Cond.classLink "BallotBus$Requests" 11 "[[I" ∈ TT := TT_in (tp1 (List.mem_of_getElem? (i := 74) (by decide +kernel))) rfl
theorem fx_clS : Cond.classLink "BallotBus$State" 51 "[[I" ∈ TT := TT_in (tp1 (List.mem_of_getElem? (i := 197) (by decide +kernel))) rfl
theorem fx_clP : Cond.classLink "BallotBus$Poll" 25 "[[I" ∈ TT := TT_in (tp2 (List.mem_of_getElem? (i := 104) (by decide +kernel))) rfl
section ARR
variable {y : Nat} {xt : List ExceptionTableEntry} {d mc ms : Nat} {wp : Nat → Nat → Prop} {z0 : Zz} {X0 : Mm} {QR : Option Av → Zz → Mm → Prop} {QX : Nat → Zz → Mm → Prop} {z : Zz} {pc : Nat} {ls : Lo} {st : List Av} {X : Mm}
theorem v_newAO (K : ∀ p, chk y p = true) {v9 x : Int32} {a b c9 cc np : Nat} (k : Nat) {n : Nat} (ht : tb y pc = (92, v9, a, b, cc, np)) (hk : shp k = (1, 5, n)) (hk8 : Nat.beq k 68 = false) (hcl : Cond.classLink (RN (cid y)) a "BallotBus$State" ∈ TT) (hx : x = nI n) (hn : Nat.ble n 60000 = true) (hne : z.1 ≠ nF) (hr : (Nat.ble (z.2.2.2.1 + 1) mc && Nat.ble (z.2.2.2.2 + n) ms) = true)
    (kk : V y xt d mc ms wp z0 X0 QR QX (zN z k n) np ls (aR k (z.1 k) :: st) X) : V y xt d mc ms wp z0 X0 QR QX z pc ls (aI x :: st) X := by
  intro l G ad0 p e s m args below meth c0 C ad H locs cells slots la U hl ol os
  obtain ⟨h1, -, h3⟩ := chk_sp K ht rfl
  have h3 : np = pc + 3 := h3.elim (fun q => by cases q) id
  subst h3
  subst hx
  obtain ⟨hr1, hr2⟩ := Bool.and_eq_true_iff.mp hr
  have hr1 := Nat.le_of_ble_eq_true hr1
  have hr2 := Nat.le_of_ble_eq_true hr2
  have hn := Nat.le_of_ble_eq_true hn
  have hc1 := U.2.2.2.2.2.2.1
  have hc2 := U.2.2.2.2.2.2.2.1
  have hts := C.2.2.2.2.1
  have hKt := C.2.2.2.2.2.2.2.2.2.2.1
  have hK := hKt.1
  obtain ⟨kA', comp', g2, g3, g4, g1⟩ := (hK.2 5 _ rfl).2
  have hcl0 : (nI n).toNatClampNeg = n := nI_clamp (by omega)
  refine W.anew C.1 C.2.1 C.2.2.2.1 (hts _ hcl) (va_AO.use hKt.2.2.2.2.2.2.1.1) rfl h1 rfl (nI_pos (by omega)) (by rw [hcl0]; omega) (by show cells + 1 ≤ mc; omega) (by rw [hcl0]; show slots + n ≤ ms; omega) fun cA kA comp f1 f2 f3 f4 => ?_
  rw [hcl0]
  have hcA : cA = G.2.1 5 := Option.some.inj (f1.symm.trans g1)
  subst hcA
  generalize hH1 : H.push ({ cls := G.2.1 5, slots := Array.replicate n .null, vm := .none } : Cell) = H1
  have z1 : H1.size = H.size + 1 := by rw [← hH1, Array.size_push]
  have e1 : H1[H.size]? = some (arrV (G.2.1 5) n (fun _ => .null)) := by rw [← hH1, Array.getElem?_push_size, ← arrV_new]
  have o1 : ∀ q : Nat, q < H.size → H1[q]? = H[q]? := fun q hq => by rw [← hH1, Array.getElem?_push, if_neg (Nat.ne_of_lt hq)]
  have hU : Cu G ad0 wp z0 X0 s (adN ad z k H.size) (zN z k n) X H1 locs (cells + 1) (slots + n) := U.grow k n hne z1 o1 (n68 hk rfl) (by
    have hal : aln (zN z k n) k = n := by unfold aln; rw [hk8, hk]; rfl
    rw [cel_a hk, hal]
    show H1[H.size]? = some (arrV (G.2.1 5) n (fun j => va_rf (adq (adN ad z k H.size) ((zN z k n).2.1 k (z.1 k) j))))
    rw [e1]
    refine congrArg some (arrV_cg (fun j hj => ?_))
    rw [zN_rn]
    rfl)
  have he : ∀ a b, b < z.1 a → adN ad z k H.size a b = ad a b := fun a b h => adN_old h
  have hup : ∀ a b, b < z.1 a → b < (zN z k n).1 a := fun a b h => zN_lt.mpr (Or.inl h)
  have os := oks_t os
  have := kk l G ad0 p e s m args below meth c0 C (adN ad z k H.size) H1 locs (cells + 1) (slots + n) la hU (by rw [cvl_ad ol he]; exact hl) (fun q hq => (ol q hq).up hup) (oks_c (by show z.1 k < (zN z k n).1 k; exact zN_lt.mpr (Or.inr ⟨rfl, rfl⟩)) (fun v hv => (os v hv).up hup))
  rw [List.map_cons, cvs_ad os he] at this
  have e9 : cv G (adN ad z k H.size) (aR k (z.1 k)) = .ref H.size := congrArg Value.ref adN_new
  rw [e9] at this
  exact this
end ARR
