/-! the world when all is made: counts, references (printed by wip/whole/gen16.norm.py) -/
def nFl : List Nat := [1, 1, 1, 1, 1, 3, 3, 3, 3, 3, 3, 3, 14, 14, 14, 14, 14, 14, 14, 14, 1, 11, 11, 11, 11, 11, 11, 88, 11, 11, 11, 11, 11, 11, 11, 11, 11, 1, 1, 1, 1, 1, 1, 5, 1, 5, 1, 1, 1, 1, 1, 1, 1, 1, 1, 1, 1, 1, 1, 1, 1, 1, 1, 1, 1, 1, 1, 1, 1]
def nF (k : Nat) : Nat := nFl.getD k 0
def sr0 (g : Nat → Nat) (i j : Nat) : Option (Nat × Nat) := cond (Nat.beq j 0) (some (1, 0)) (cond (Nat.beq j 1) (some (3, 0)) (cond (Nat.beq j 2) (some (20, 0)) (cond (Nat.beq j 6) (some (5, g 0)) (cond (Nat.beq j 7) (some (5, g 1)) (cond (Nat.beq j 8) (some (21, 0)) (cond (Nat.beq j 9) (some (21, 1)) (cond (Nat.beq j 10) (some (21, 2)) (cond (Nat.beq j 12) (some (37, 0)) (cond (Nat.beq j 13) (some (39, 0)) (cond (Nat.beq j 14) (some (46, 0)) (cond (Nat.beq j 15) (some (47, 0)) (none))))))))))))
def sr1 (g : Nat → Nat) (i j : Nat) : Option (Nat × Nat) := cond (Nat.beq j 0) (some (2, 0)) (none)
def sr3 (g : Nat → Nat) (i j : Nat) : Option (Nat × Nat) := cond (Nat.beq j 0) (some (4, 0)) (cond (Nat.beq j 1) (some (5, g 2)) (none))
def sr4 (g : Nat → Nat) (i j : Nat) : Option (Nat × Nat) := cond (Nat.beq j 0) (some (1, 0)) (none)
def sr5 (g : Nat → Nat) (i j : Nat) : Option (Nat × Nat) := cond (Nat.beq j 1) (some (6, i)) (cond (Nat.beq j 2) (some (7, i)) (cond (Nat.beq j 4) (some (8, i)) (cond (Nat.beq j 5) (some (9, i)) (cond (Nat.beq j 6) (some (10, i)) (cond (Nat.beq j 8) (some (11, i)) (cond (Nat.beq j 9) (some (12, i)) (none)))))))
def sr12 (g : Nat → Nat) (i j : Nat) : Option (Nat × Nat) := cond (Nat.beq j 0) (some (13, i)) (none)
def sr13 (g : Nat → Nat) (i j : Nat) : Option (Nat × Nat) := cond (Nat.beq j 0) (some (14, i)) (cond (Nat.beq j 1) (some (15, i)) (cond (Nat.beq j 2) (some (16, i)) (cond (Nat.beq j 3) (some (17, i)) (cond (Nat.beq j 4) (some (18, i)) (cond (Nat.beq j 5) (some (19, i)) (none))))))
def sr21 (g : Nat → Nat) (i j : Nat) : Option (Nat × Nat) := cond (Nat.beq j 0) (some (5, g (i + 3))) (cond (Nat.beq j 9) (some (22, i)) (cond (Nat.beq j 10) (some (23, i)) (cond (Nat.beq j 11) (some (24, i)) (cond (Nat.beq j 12) (some (25, i)) (cond (Nat.beq j 13) (some (26, i)) (cond (Nat.beq j 14) (some (28, i)) (cond (Nat.beq j 15) (some (12, i + 3)) (cond (Nat.beq j 16) (some (35, i)) (none)))))))))
def sr26 (i j : Nat) : Option (Nat × Nat) := some (27, 8 * i + j)
def sr28 (g : Nat → Nat) (i j : Nat) : Option (Nat × Nat) := cond (Nat.beq j 0) (some (29, i)) (cond (Nat.beq j 1) (some (30, i)) (cond (Nat.beq j 2) (some (31, i)) (cond (Nat.beq j 3) (some (32, i)) (cond (Nat.beq j 4) (some (33, i)) (cond (Nat.beq j 5) (some (34, i)) (none))))))
def sr35 (g : Nat → Nat) (i j : Nat) : Option (Nat × Nat) := cond (Nat.beq j 0) (some (36, i)) (none)
def sr37 (g : Nat → Nat) (i j : Nat) : Option (Nat × Nat) := cond (Nat.beq j 0) (some (38, 0)) (none)
def sr38 (i j : Nat) : Option (Nat × Nat) := some (21, j + 3)
def sr39 (g : Nat → Nat) (i j : Nat) : Option (Nat × Nat) := cond (Nat.beq j 2) (some (40, 0)) (cond (Nat.beq j 3) (some (41, 0)) (cond (Nat.beq j 4) (some (42, 0)) (cond (Nat.beq j 5) (some (44, 0)) (none))))
def sr42 (i j : Nat) : Option (Nat × Nat) := some (43, j)
def sr44 (i j : Nat) : Option (Nat × Nat) := some (45, j)
def sr48 (g : Nat → Nat) (i j : Nat) : Option (Nat × Nat) := cond (Nat.beq j 8) (some (49, 0)) (cond (Nat.beq j 9) (some (50, 0)) (cond (Nat.beq j 10) (some (51, 0)) (cond (Nat.beq j 11) (some (52, 0)) (cond (Nat.beq j 12) (some (53, 0)) (cond (Nat.beq j 13) (some (54, 0)) (cond (Nat.beq j 14) (some (55, 0)) (cond (Nat.beq j 15) (some (56, 0)) (cond (Nat.beq j 16) (some (57, 0)) (cond (Nat.beq j 20) (some (58, 0)) (cond (Nat.beq j 21) (some (59, 0)) (cond (Nat.beq j 22) (some (60, 0)) (cond (Nat.beq j 36) (some (61, 0)) (cond (Nat.beq j 37) (some (62, 0)) (cond (Nat.beq j 38) (some (63, 0)) (cond (Nat.beq j 39) (some (64, 0)) (cond (Nat.beq j 40) (some (65, 0)) (none)))))))))))))))))
/-- the references that cells hold; g: which setup: of the bus, its draft, its reader's, of each state -/
def sr (g : Nat → Nat) (k i j : Nat) : Option (Nat × Nat) := (cond (Nat.ble k 21) (cond (Nat.ble k 4) (cond (Nat.ble k 1) (cond (Nat.ble k 0) (cond (Nat.beq k 0) (sr0 g i j) none) (cond (Nat.beq k 1) (sr1 g i j) none)) (cond (Nat.ble k 3) (cond (Nat.beq k 3) (sr3 g i j) none) (cond (Nat.beq k 4) (sr4 g i j) none))) (cond (Nat.ble k 12) (cond (Nat.ble k 5) (cond (Nat.beq k 5) (sr5 g i j) none) (cond (Nat.beq k 12) (sr12 g i j) none)) (cond (Nat.ble k 13) (cond (Nat.beq k 13) (sr13 g i j) none) (cond (Nat.beq k 21) (sr21 g i j) none)))) (cond (Nat.ble k 37) (cond (Nat.ble k 28) (cond (Nat.ble k 26) (cond (Nat.beq k 26) (sr26 i j) none) (cond (Nat.beq k 28) (sr28 g i j) none)) (cond (Nat.ble k 35) (cond (Nat.beq k 35) (sr35 g i j) none) (cond (Nat.beq k 37) (sr37 g i j) none))) (cond (Nat.ble k 39) (cond (Nat.ble k 38) (cond (Nat.beq k 38) (sr38 i j) none) (cond (Nat.beq k 39) (sr39 g i j) none)) (cond (Nat.ble k 42) (cond (Nat.beq k 42) (sr42 i j) none) (cond (Nat.ble k 44) (cond (Nat.beq k 44) (sr44 i j) none) (cond (Nat.beq k 48) (sr48 g i j) none))))))
abbrev zU (g : Nat → Nat) (L u1 u2 : Nat) : Zz := (nF, sr g, L, u1, u2)
abbrev QN (g : Nat → Nat) {α : Type} (Q : α → Mm → Prop) : α → Zz → Mm → Prop := fun v z X => z.1 = nF ∧ z.2.1 = sr g ∧ Q v X
abbrev noX : Nat → Mm → Prop := fun _ _ => False
/-- a contract once all is made -/
abbrev Cm (y d mc ms : Nat) (wp : Nat → Nat → Prop) (g : Nat → Nat) (L : Nat) (X : Mm) (As : List Av) (QR : Option Av → Mm → Prop) (QX : Nat → Mm → Prop) : Prop := Ct y d mc ms wp (zU g L 0 0) X As (QN g QR) (QN g QX)
abbrev Cn (y d : Nat) (wp : Nat → Nat → Prop) (g : Nat → Nat) (L : Nat) (X : Mm) (As : List Av) (QR : Option Av → Mm → Prop) : Prop := Cm y d 0 0 wp g L X As QR noX
/-- a walk once all is made -/
abbrev Vm (y d mc ms : Nat) (wp : Nat → Nat → Prop) (g : Nat → Nat) (L : Nat) (X0 : Mm) (QR : Option Av → Mm → Prop) (QX : Nat → Mm → Prop) (u1 u2 pc : Nat) (ls : Lo) (st : List Av) (X : Mm) : Prop := V y [] d mc ms wp (zU g L 0 0) X0 (QN g QR) (QN g QX) (zU g L u1 u2) pc ls st X
theorem Cm_of {y d mc ms : Nat} {wp : Nat → Nat → Prop} {g : Nat → Nat} {L : Nat} {X : Mm} {As : List Av} {QR : Option Av → Mm → Prop} {QX : Nat → Mm → Prop} (ls : Lo) (hwp : ∀ i, ¬ wp 68 i) (h : Vm y d mc ms wp g L X QR QX 0 0 0 ls [] X) (hy : Nat.ble y 299 = true := by rfl) (hls : lar 0 As = ls := by rfl) (hwid : Nat.ble (wid As) (mxl y) = true := by rfl) : Cm y d mc ms wp g L X As QR QX :=
  Ct_of (Nat.lt_succ_of_le (Nat.le_of_ble_eq_true hy)) hwp hls hwid h
section NCALL
variable {y d mc ms : Nat} {wp : Nat → Nat → Prop} {g : Nat → Nat} {L : Nat} {X0 : Mm} {QR : Option Av → Mm → Prop} {QX : Nat → Mm → Prop} {u1 u2 pc : Nat} {ls : Lo} {st : List Av} {X : Mm}
theorem n_callV (K : ∀ p, chk y p = true) {v : Int32} {a c np y' d' k9 i9 c9 n9 : Nat} {wp' : Nat → Nat → Prop} {As stk : List Av} {QR' : Option Av → Mm → Prop} (hC : Cn y' d' wp' g L X (aR k9 i9 :: As) QR') (ht : tb y pc = (81, v, a, y', c, np)) (hs : stk = rapp (aR k9 i9 :: As) st) (hw : ∀ k i, wp' k i → wp k i)
    (kk : ∀ (w : Option Av) (X2 : Mm), QR' w X2 → Ag wp' X X2 → Vm y d mc ms wp g L X0 QR QX u1 u2 np ls (w.toList ++ st) X2)
    (hsh : shp k9 = (0, c9, n9) := by rfl) (hcl : (vck c9).1 = RN (cid y') := by rfl) (hc9 : Nat.ble (c9 + 1) vcl.length = true := by rfl) (hlen : As.length = npl.getD y' 0 := by rfl) (hd : Nat.ble (d' + 1) d = true := by rfl) (hm : (Nat.ble u1 mc && Nat.ble u2 ms) = true := by rfl) (hst : Nat.ble st.length 4 = true := by rfl) : Vm y d mc ms wp g L X0 QR QX u1 u2 pc ls stk X := by
  refine v_callV K ht hC hsh hcl hc9 hs ⟨rfl, rfl, rfl⟩ hw hlen hd hm hst (fun w z2 X2 h hA => ?_) (fun x z2 X2 h hA => h.2.2.elim)
  obtain ⟨h1, h2, h3⟩ := h
  rw [h1, h2]
  exact kk w X2 h3 hA
theorem n_callS (K : ∀ p, chk y p = true) {v : Int32} {a c np y' d' : Nat} {wp' : Nat → Nat → Prop} {As stk : List Av} {QR' : Option Av → Mm → Prop} (hC : Cn y' d' wp' g L X As QR') (ht : tb y pc = (80, v, a, y', c, np)) (hs : stk = rapp As st) (hw : ∀ k i, wp' k i → wp k i)
    (kk : ∀ (w : Option Av) (X2 : Mm), QR' w X2 → Ag wp' X X2 → Vm y d mc ms wp g L X0 QR QX u1 u2 np ls (w.toList ++ st) X2)
    (hy' : Nat.ble y' 299 = true := by rfl) (hlen : As.length = npl.getD y' 0 := by rfl) (hd : Nat.ble (d' + 1) d = true := by rfl) (hm : (Nat.ble u1 mc && Nat.ble u2 ms) = true := by rfl) (hst : Nat.ble st.length 4 = true := by rfl) : Vm y d mc ms wp g L X0 QR QX u1 u2 pc ls stk X := by
  refine v_callS K ht hC hy' hs ⟨rfl, rfl, rfl⟩ hw hlen hd hm hst (fun w z2 X2 h hA => ?_) (fun x z2 X2 h hA => h.2.2.elim)
  obtain ⟨h1, h2, h3⟩ := h
  rw [h1, h2]
  exact kk w X2 h3 hA
/-- of a method that may throw: mc', ms' are added to what was made; an exception goes on to the caller -/
theorem t_callV (K : ∀ p, chk y p = true) {v : Int32} {a c np y' d' mc' ms' k9 i9 c9 n9 : Nat} {wp' : Nat → Nat → Prop} {As stk : List Av} {QR' : Option Av → Mm → Prop} {QX' : Nat → Mm → Prop} (hC : Cm y' d' mc' ms' wp' g L X (aR k9 i9 :: As) QR' QX') (ht : tb y pc = (81, v, a, y', c, np)) (hs : stk = rapp (aR k9 i9 :: As) st) (hw : ∀ k i, wp' k i → wp k i)
    (kk : ∀ (w : Option Av) (X2 : Mm), QR' w X2 → Ag wp' X X2 → Vm y d mc ms wp g L X0 QR QX (u1 + mc') (u2 + ms') np ls (w.toList ++ st) X2) (kx : ∀ (x : Nat) (X2 : Mm), QX' x X2 → Ag wp' X X2 → QX x X2)
    (hr : rok d mc ms (zU g L (u1 + mc') (u2 + ms')) = true := by rfl) (hsh : shp k9 = (0, c9, n9) := by rfl) (hcl : (vck c9).1 = RN (cid y') := by rfl) (hc9 : Nat.ble (c9 + 1) vcl.length = true := by rfl) (hlen : As.length = npl.getD y' 0 := by rfl) (hd : Nat.ble (d' + 1) d = true := by rfl) (hst : Nat.ble st.length 4 = true := by rfl) : Vm y d mc ms wp g L X0 QR QX u1 u2 pc ls stk X := by
  refine v_callV K ht hC hsh hcl hc9 hs ⟨rfl, rfl, rfl⟩ hw hlen hd (Bool.and_eq_true_iff.mp hr).2 hst (fun w z2 X2 h hA => ?_) (fun x z2 X2 h hA => ?_)
  · obtain ⟨h1, h2, h3⟩ := h
    rw [h1, h2]
    exact kk w X2 h3 hA
  · obtain ⟨h1, h2, h3⟩ := h
    exact vx_none ⟨h1, h2, kx x X2 h3 hA⟩ hr
/-- ends -/
theorem n_ireturn (K : ∀ p, chk y p = true) {v : Int32} {a b c np : Nat} {x : Int32} (hq : QR (some (aI x)) X) (ht : tb y pc = (70, v, a, b, c, np) := by rfl) (hrt : rtt y = some .int := by rfl) (hr : rok d mc ms (zU g L u1 u2) = true := by rfl) : Vm y d mc ms wp g L X0 QR QX u1 u2 pc ls [aI x] X := v_ireturn K ht hrt ⟨rfl, rfl, hq⟩ hr
theorem n_zreturn (K : ∀ p, chk y p = true) {v : Int32} {a b c np : Nat} {x : Int32} (hx : x = 0 ∨ x = 1) (hq : QR (some (aI x)) X) (ht : tb y pc = (70, v, a, b, c, np) := by rfl) (hrt : rtt y = some .boolean := by rfl) (hr : rok d mc ms (zU g L u1 u2) = true := by rfl) : Vm y d mc ms wp g L X0 QR QX u1 u2 pc ls [aI x] X := v_zreturn K ht hrt hx ⟨rfl, rfl, hq⟩ hr
theorem n_lreturn (K : ∀ p, chk y p = true) {v : Int32} {a b c np : Nat} {x : Int64} (hq : QR (some (aJ x)) X) (ht : tb y pc = (71, v, a, b, c, np) := by rfl) (hrt : rtt y = some .long := by rfl) (hr : rok d mc ms (zU g L u1 u2) = true := by rfl) : Vm y d mc ms wp g L X0 QR QX u1 u2 pc ls [aJ x] X := v_lreturn K ht hrt ⟨rfl, rfl, hq⟩ hr
theorem n_return (K : ∀ p, chk y p = true) {v : Int32} {a b c np : Nat} (hq : QR none X) (ht : tb y pc = (74, v, a, b, c, np) := by rfl) (hrt : rtt y = none := by rfl) (hr : rok d mc ms (zU g L u1 u2) = true := by rfl) : Vm y d mc ms wp g L X0 QR QX u1 u2 pc ls [] X := v_return K ht hrt ⟨rfl, rfl, hq⟩ hr
end NCALL
