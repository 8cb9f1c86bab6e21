/-! walks and contracts once all is made (printed by wip/whole/gen16.norm.py) -/
abbrev zU (g : Nat → Nat) (L u1 u2 : Nat) : Zz := (cF g, sr g, L, u1, u2)
abbrev QN (g : Nat → Nat) {α : Type} (Q : α → Mm → Prop) : α → Zz → Mm → Prop := fun v z X => z.1 = cF g ∧ z.2.1 = sr g ∧ Q v X
abbrev noX : Nat → Mm → Prop := fun _ _ => False
/-- a contract once all is made -/
abbrev Cm (y d mc ms : Nat) (wp : Nat → Nat → Prop) (g : Nat → Nat) (L : Nat) (X : Mm) (As : List Av) (QR : Option Av → Mm → Prop) (QX : Nat → Mm → Prop) : Prop := Ct y d mc ms wp (zU g L 0 0) X As (QN g QR) (QN g QX)
abbrev Cn (y d : Nat) (wp : Nat → Nat → Prop) (g : Nat → Nat) (L : Nat) (X : Mm) (As : List Av) (QR : Option Av → Mm → Prop) : Prop := Cm y d 0 0 wp g L X As QR noX
/-- a walk once all is made -/
abbrev Vm (y d mc ms : Nat) (wp : Nat → Nat → Prop) (g : Nat → Nat) (L : Nat) (X0 : Mm) (QR : Option Av → Mm → Prop) (QX : Nat → Mm → Prop) (u1 u2 pc : Nat) (ls : Lo) (st : List Av) (X : Mm) : Prop := V y [] d mc ms wp (zU g L 0 0) X0 (QN g QR) (QN g QX) (zU g L u1 u2) pc ls st X
theorem Cm_of {y d mc ms : Nat} {wp : Nat → Nat → Prop} {g : Nat → Nat} {L : Nat} {X : Mm} {As : List Av} {QR : Option Av → Mm → Prop} {QX : Nat → Mm → Prop} (ls : Lo) (hwp : ∀ i, ¬ wp 68 i) (h : Vm y d mc ms wp g L X QR QX 0 0 0 ls [] X) (hy : Nat.ble y 299 = true := by rfl) (hls : lar 0 As = ls := by rfl) (hwid : Nat.ble (wid As) (mxl y) = true := by rfl) : Cm y d mc ms wp g L X As QR QX :=
  Ct_of (Nat.lt_succ_of_le (Nat.le_of_ble_eq_true hy)) hwp hls hwid h
section NCALL
variable {y d mc ms : Nat} {wp : Nat → Nat → Prop} {g : Nat → Nat} {L : Nat} {X0 : Mm} {QR : Option Av → Mm → Prop} {QX : Nat → Mm → Prop} {u1 u2 pc : Nat} {ls : Lo} {st : List Av} {X : Mm}
theorem n_callV (K : ∀ p, chk y p = true) {v : Int32} {a c np y' d' k9 i9 c9 n9 : Nat} {wp' : Nat → Nat → Prop} {As stk : List Av} {QR' : Option Av → Mm → Prop} (hC : Cn y' d' wp' g L X (aR k9 i9 :: As) QR') (ht : tb y pc = (81, v, a, y', c, np)) (hs : stk = rapp (aR k9 i9 :: As) st) (hw : ∀ k i, wp' k i → wp k i)
    (kk : ∀ (w : Option Av) (X2 : Mm), QR' w X2 → Ag wp' X X2 → Vm y d mc ms wp g L X0 QR QX u1 u2 np ls (w.toList ++ st) X2)
    (hsh : shp k9 = (0, c9, n9) := by rfl) (hcl : (vck c9).1 = RN (cid y') := by rfl) (hc9 : Nat.ble (c9 + 1) vcl.length = true := by rfl) (hlen : As.length = npl.getD y' 0 := by rfl) (hd : Nat.ble (d' + 1) d = true := by rfl) (hm : (Nat.ble u1 mc && Nat.ble u2 ms) = true := by rfl) (hst : Nat.ble st.length 4 = true := by rfl) : Vm y d mc ms wp g L X0 QR QX u1 u2 pc ls stk X := by
  refine v_callV K ht hC hsh hcl hc9 hs ⟨rfl, rfl, rfl⟩ hw hlen hd hm hst (fun w z2 X2 h hA => ?_) (fun x z2 X2 h hA => h.2.2.elim)
  obtain ⟨h1, h2, h3⟩ := h
  rw [h1, h2]
  exact kk w X2 h3 hA
theorem n_callS (K : ∀ p, chk y p = true) {v : Int32} {a c np y' d' : Nat} {wp' : Nat → Nat → Prop} {As stk : List Av} {QR' : Option Av → Mm → Prop} (hC : Cn y' d' wp' g L X As QR') (ht : tb y pc = (80, v, a, y', c, np)) (hs : stk = rapp As st) (hw : ∀ k i, wp' k i → wp k i)
    (kk : ∀ (w : Option Av) (X2 : Mm), QR' w X2 → Ag wp' X X2 → Vm y d mc ms wp g L X0 QR QX u1 u2 np ls (w.toList ++ st) X2)
    (hy' : Nat.ble y' 299 = true := by rfl) (hlen : As.length = npl.getD y' 0 := by rfl) (hd : Nat.ble (d' + 1) d = true := by rfl) (hm : (Nat.ble u1 mc && Nat.ble u2 ms) = true := by rfl) (hst : Nat.ble st.length 4 = true := by rfl) : Vm y d mc ms wp g L X0 QR QX u1 u2 pc ls stk X := by
  refine v_callS K ht hC hy' hs ⟨rfl, rfl, rfl⟩ hw hlen hd hm hst (fun w z2 X2 h hA => ?_) (fun x z2 X2 h hA => h.2.2.elim)
  obtain ⟨h1, h2, h3⟩ := h
  rw [h1, h2]
  exact kk w X2 h3 hA
/-- of a method that may throw: mc', ms' are added to what was made; an exception goes on to the caller -/
theorem t_callV (K : ∀ p, chk y p = true) {v : Int32} {a c np y' d' mc' ms' k9 i9 c9 n9 : Nat} {wp' : Nat → Nat → Prop} {As stk : List Av} {QR' : Option Av → Mm → Prop} {QX' : Nat → Mm → Prop} (hC : Cm y' d' mc' ms' wp' g L X (aR k9 i9 :: As) QR' QX') (ht : tb y pc = (81, v, a, y', c, np)) (hs : stk = rapp (aR k9 i9 :: As) st) (hw : ∀ k i, wp' k i → wp k i)
    (kk : ∀ (w : Option Av) (X2 : Mm), QR' w X2 → Ag wp' X X2 → Vm y d mc ms wp g L X0 QR QX (u1 + mc') (u2 + ms') np ls (w.toList ++ st) X2) (kx : ∀ (x : Nat) (X2 : Mm), QX' x X2 → Ag wp' X X2 → QX x X2)
    (hr : rok d mc ms (zU g L (u1 + mc') (u2 + ms')) = true := by rfl) (hsh : shp k9 = (0, c9, n9) := by rfl) (hcl : (vck c9).1 = RN (cid y') := by rfl) (hc9 : Nat.ble (c9 + 1) vcl.length = true := by rfl) (hlen : As.length = npl.getD y' 0 := by rfl) (hd : Nat.ble (d' + 1) d = true := by rfl) (hst : Nat.ble st.length 4 = true := by rfl) : Vm y d mc ms wp g L X0 QR QX u1 u2 pc ls stk X := by
  refine v_callV K ht hC hsh hcl hc9 hs ⟨rfl, rfl, rfl⟩ hw hlen hd (Bool.and_eq_true_iff.mp hr).2 hst (fun w z2 X2 h hA => ?_) (fun x z2 X2 h hA => ?_)
  · obtain ⟨h1, h2, h3⟩ := h
    rw [h1, h2]
    exact kk w X2 h3 hA
  · obtain ⟨h1, h2, h3⟩ := h
    exact vx_none ⟨h1, h2, kx x X2 h3 hA⟩ hr
/-- ends -/
theorem n_ireturn (K : ∀ p, chk y p = true) {v : Int32} {a b c np : Nat} {x : Int32} (hq : QR (some (aI x)) X) (ht : tb y pc = (70, v, a, b, c, np) := by rfl) (hrt : rtt y = some .int := by rfl) (hr : rok d mc ms (zU g L u1 u2) = true := by rfl) : Vm y d mc ms wp g L X0 QR QX u1 u2 pc ls [aI x] X := v_ireturn K ht hrt ⟨rfl, rfl, hq⟩ hr
theorem n_zreturn (K : ∀ p, chk y p = true) {v : Int32} {a b c np : Nat} {x : Int32} (hx : x = 0 ∨ x = 1) (hq : QR (some (aI x)) X) (ht : tb y pc = (70, v, a, b, c, np) := by rfl) (hrt : rtt y = some .boolean := by rfl) (hr : rok d mc ms (zU g L u1 u2) = true := by rfl) : Vm y d mc ms wp g L X0 QR QX u1 u2 pc ls [aI x] X := v_zreturn K ht hrt hx ⟨rfl, rfl, hq⟩ hr
theorem n_lreturn (K : ∀ p, chk y p = true) {v : Int32} {a b c np : Nat} {x : Int64} (hq : QR (some (aJ x)) X) (ht : tb y pc = (71, v, a, b, c, np) := by rfl) (hrt : rtt y = some .long := by rfl) (hr : rok d mc ms (zU g L u1 u2) = true := by rfl) : Vm y d mc ms wp g L X0 QR QX u1 u2 pc ls [aJ x] X := v_lreturn K ht hrt ⟨rfl, rfl, hq⟩ hr
theorem n_return (K : ∀ p, chk y p = true) {v : Int32} {a b c np : Nat} (hq : QR none X) (ht : tb y pc = (74, v, a, b, c, np) := by rfl) (hrt : rtt y = none := by rfl) (hr : rok d mc ms (zU g L u1 u2) = true := by rfl) : Vm y d mc ms wp g L X0 QR QX u1 u2 pc ls [] X := v_return K ht hrt ⟨rfl, rfl, hq⟩ hr
end NCALL
