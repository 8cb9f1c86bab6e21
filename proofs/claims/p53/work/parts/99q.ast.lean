/-! a reference is put into an array of references -/
section AST
variable {y : Nat} {xt : List ExceptionTableEntry} {d mc ms : Nat} {wp : Nat → Nat → Prop} {z0 : Zz} {X0 : Mm} {QR : Option Av → Zz → Mm → Prop} {QX : Nat → Zz → Mm → Prop} {z : Zz} {pc : Nat} {ls : Lo} {st : List Av} {X : Mm}
theorem v_aast (K : ∀ p, chk y p = true) {v9 x : Int32} {a b c np k i k2 i2 c2 n n2 j : Nat} {cc : Nat → Nat} (R : Nat → Nat → Nat → Option (Nat × Nat)) (ht : tb y pc = (94, v9, a, b, c, np)) (h1 : shp k = (1, 5, n)) (hk8 : Nat.beq k 68 = false) (h2 : shp k2 = (0, c2, n2)) (hc2 : (vck c2).1 = "BallotBus$State") (hc9 : Nat.ble (c2 + 1) vcl.length = true) (hx : x = nI j) (hj : Nat.ble (j + 1) n = true) (hn : Nat.ble n 60000 = true) (hw : wp k i) (hF : z.1 = cc)
    (hR : ∀ k' i' j', i' < cc k' → ¬ (k' = k ∧ i' = i ∧ j' = j) → R k' i' j' = z.2.1 k' i' j') (hRb : R k i j = some (k2, i2))
    (kk : i < cc k → i2 < cc k2 → V y xt d mc ms wp z0 X0 QR QX (wR z R) np ls st X) : V y xt d mc ms wp z0 X0 QR QX z pc ls (aR k2 i2 :: aI x :: aR k i :: st) X := by
  intro l G ad0 p e s m args below meth c0 C ad H locs cells slots la U hl ol os
  obtain ⟨hd, -, h3⟩ := chk_sp K ht rfl
  have h3 : np = pc + 1 := h3.elim (fun q => by cases q) id
  subst h3
  subst hx
  have hj := Nat.le_of_ble_eq_true hj
  have hn := Nat.le_of_ble_eq_true hn
  have hi : i < z.1 k := oks_h (oks_t (oks_t os))
  have hq : i2 < z.1 k2 := oks_h os
  have hK := C.2.2.2.2.2.2.2.2.2.2.1.1
  have hal : aln z k = n := by unfold aln; rw [hk8, h1]; rfl
  have hPa := (U.1.1 k i hi).1 hk8
  rw [cel_a h1, hal] at hPa
  have hPv := (U.1.1 k2 i2 hq).1 (n68 h2 rfl)
  rw [cel_o h2] at hPv
  obtain ⟨r, g1, cell, q1, q2, q3, q4⟩ := hPv
  have hc := vcl_at (Nat.le_of_ble_eq_true hc9)
  have hr : r = vck c2 := Option.some.inj (g1.symm.trans hc)
  subst hr
  have hcls := (hK.1 c2 _ hc).2
  obtain ⟨kA, comp, k1, k2', k3, -⟩ := (hK.2 5 _ rfl).2
  have hcls1 := hcls.1
  rw [hc2] at hcls1
  have hcomp : comp = G.1.1 c2 := Option.some.inj (k3.symm.trans hcls1)
  subst hcomp
  obtain ⟨kC, hkC, -⟩ := hcls.2
  have hcl0 : (nI j).toNatClampNeg = j := nI_clamp (by omega)
  refine W.aast C.1 C.2.1 hPa (fun q h => by cases h) (fun h => by cases h) k1 k2' rfl hkC ⟨nI_pos (by omega), by show (nI j).toNatClampNeg < (arrV (G.2.1 5) n (fun j => va_rf (adq ad (z.2.1 k i j)))).slots.size; rw [arrV_size, hcl0]; exact hj⟩ q1 (fun q h => by rw [q3] at h; cases h) (by rw [q2]; exact hkC) (by rw [q2]; exact va_assign hcls) rfl rfl hd fun H1 e zz oq => ?_
  refine kk (by rw [← hF]; exact hi) (by rw [← hF]; exact hq) l G ad0 p _ s m args below meth c0 C ad H1 _ cells slots la (U.storeR hi hk8 hw hF R (k2, i2) hR hRb hq ?_ zz oq (fun q hq => by rw [List.mem_singleton.mp hq])) hl (fun q hq => (ol q hq).cg rfl) (fun v hv => (oks_t (oks_t (oks_t os)) v hv).cg rfl)
  rw [cel_a h1, show aln (wR z R) k = n from hal]
  show H1[ad k i]? = some (arrV (G.2.1 5) n (fun j => va_rf (adq ad (R k i j))))
  rw [e]
  have e0 : (vp_cell (G.2.1 5) (n, arc ad z X k i 5)) = arrV (G.2.1 5) n (fun j => va_rf (adq ad (z.2.1 k i j))) := rfl
  rw [e0, arrV_store, hcl0]
  refine congrArg some (arrV_cg (fun q hq => ?_))
  by_cases hqj : q = j
  · subst hqj
    simp [updV, va_rf, hRb, adq]
  · rw [hR k i q (by rw [← hF]; exact hi) (fun h => hqj h.2.2)]
    simp [updV, hqj]
end AST
