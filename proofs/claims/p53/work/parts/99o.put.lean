/-! a reference is put into a final field, by the constructor of the class that declares it -/
section PG
variable {y : Nat} {xt : List ExceptionTableEntry} {d mc ms : Nat} {wp : Nat → Nat → Prop} {z0 : Zz} {X0 : Mm} {QR : Option Av → Zz → Mm → Prop} {QX : Nat → Zz → Mm → Prop} {z : Zz} {pc : Nat} {ls : Lo} {st : List Av} {X : Mm}
theorem v_putGF (K : ∀ p, chk y p = true) {v9 : Int32} {a b c np k i n : Nat} {cc : Nat → Nat} {q0 : Nat × Nat} (R : Nat → Nat → Nat → Option (Nat × Nat)) (ht : tb y pc = (51, v9, a, b, c, np)) (h1 : shp k = (0, c, n)) (h2 : Nat.ble (b + 1) n = true) (hfin : ((vck c).2.1 b).2.2.2 = true) (hini : isIni y = true) (hdecl : ((vck c).2.1 b).1 = RN (cid y)) (hft : ft c b = 3) (hw : wp k i) (hF : z.1 = cc)
    (hR : ∀ k' i' j', i' < cc k' → ¬ (k' = k ∧ i' = i ∧ j' = b) → R k' i' j' = z.2.1 k' i' j') (hRb : R k i b = some q0) (hn : ∀ a : Nat, narrow (vty c b) (.ref a) = .ref a) (hfit : ∀ a : Nat, fits (vty c b) (.ref a) = true)
    (kk : i < cc k → q0.2 < cc q0.1 → V y xt d mc ms wp z0 X0 QR QX (wR z R) np ls st X) : V y xt d mc ms wp z0 X0 QR QX z pc ls (aR q0.1 q0.2 :: aR k i :: st) X := by
  intro l G ad0 p e s m args below meth c0 C ad H locs cells slots la U hl ol os
  obtain ⟨hd, hl0, h3⟩ := chk_sp K ht rfl
  have h3 : np = pc + 3 := h3.elim (fun q => by cases q) id
  subst h3
  have hl0 : (decide ((cid y, a, c, b) ∈ FLd) && (Nat.ble 3 (ft c b) || decide (((vck c).2.1 b).2.2.2 = false))) = true := hl0
  have h0 : (cid y, a, c, b) ∈ FLd := of_decide_eq_true (Bool.and_eq_true_iff.mp hl0).1
  have h2 := Nat.le_of_ble_eq_true h2
  have hi : i < z.1 k := oks_h (oks_t os)
  have hq : q0.2 < z.1 q0.1 := oks_h os
  have hb := FLd_ok _ h0
  have hK := C.2.2.2.2.2.2.2.2.2.2.1.1
  have hc := vcl_at hb.2
  have hap := va_apart (own := RN (cid y)) (C := (vck c).1) (T := (vck c).2.1) (N := (vck c).2.2) C.2.2.2.2.1 (lay_in hb.2) (vty c) (vty_ok c hb.2) (vnm_ok c hb.2) hK hc
  have hP := (U.1.1 k i hi).1 (n68 h1 rfl)
  rw [cel_o h1] at hP
  obtain ⟨r, g1, cell, q1, q2, q3, q4⟩ := hP
  have hr : r = vck c := Option.some.inj (g1.symm.trans hc)
  subst hr
  obtain ⟨hS, hfc, kC, hkC, hkind⟩ := hK.1 c _ hc
  obtain ⟨cf, kf, fi, f, hfi, hsl⟩ := hS b hb.1
  have hlay := C.2.2.2.2.1 _ (lay_in hb.2 _ (u_in_lay hb.1))
  unfold u_lay at hlay
  rw [if_pos hfin] at hlay
  have hst := (u_facts hfc hkC (u_lays C.2.2.2.2.1 (lay_in hb.2) hb.1) hfi).1
  have hcf : m.cls = cf := by
    obtain ⟨_, _, c', _, _, _, -, -, hf', -, -, -, hown2, -⟩ := Cond.laysFinal_spec hlay
    have e1 : c' = cf := by have := hfi.symm.trans hf'; simp at this; exact this.1.symm
    rw [hdecl] at hown2
    rw [← e1]; exact Option.some.inj (C.2.2.2.1.symm.trans hown2)
  have h6 := u_fits hfc hkC hkind (Or.inr hlay) hfi (vty_ok c hb.2 b hb.1) (hn (ad q0.1 q0.2)) (hfit (ad q0.1 q0.2))
  refine W.putFinK C.1 C.2.1 C.2.2.2.1 (C.2.2.2.2.1 _ (FLd_in _ h0)) hfi hst hcf (C.2.2.2.2.2.2.2.2.2.1 hini) (by rw [q2]; exact h6) q1 q3 (by rw [hsl]; exact k2_hasslot (q4 b hb.1)) rfl rfl hd fun H' e1 e2 e3 => ?_
  rw [hsl] at e1 ⊢
  refine kk (by rw [← hF]; exact hi) (by rw [← hF]; exact hq) l G ad0 p e s m args below meth c0 C ad H' _ cells slots la (U.storeR hi (n68 h1 rfl) hw hF R q0 hR hRb hq ?_ e2 e3 (l2 := [⟨ad k i, (G.1.2 c) b⟩]) (fun q hq => by rw [List.mem_singleton.mp hq])) hl (fun q hq => (ol q hq).cg rfl) (fun v hv => (oks_t (oks_t os) v hv).cg rfl)
  have hi2 : i < cc k := by rw [← hF]; exact hi
  have m1 : fv ad (wR z R) X k i c b = .ref (ad q0.1 q0.2) := by
    simp only [fv, hft, hRb]
    rfl
  have m2 : ∀ j, j ≠ b → fv ad (wR z R) X k i c j = fv ad z X k i c j := fun j hj => by
    have e9 : R k i j = z.2.1 k i j := hR k i j hi2 (fun h => hj h.2.2)
    simp only [fv, e9]
  rw [cel_o h1, map_set m1 m2]
  exact ⟨_, hc, t_OB.to (V := updV (vp_V ((List.range n).map (fv ad z X k i c))) b (.ref (ad q0.1 q0.2))) ⟨_, e1, q2, q3, t_set q4 hap hb.1 (.ref (ad q0.1 q0.2))⟩ (fun j _ => vp_updV_set (by simp; omega) (.ref (ad q0.1 q0.2)) j)⟩
end PG
/-! other references, other counts, the same on what is made -/
theorem Cu.refs {G : Gp} {ad0 ad : Nat → Nat → Nat} {wp : Nat → Nat → Prop} {z0 z : Zz} {X0 X : Mm} {s : State} {H : Heap} {locs : List Loc} {cells slots : Nat} (U : Cu G ad0 wp z0 X0 s ad z X H locs cells slots) (c' : Nat → Nat) (R : Nat → Nat → Nat → Option (Nat × Nat)) (hc' : c' = z.1) (hR : ∀ k i j, i < z.1 k → R k i j = z.2.1 k i j) : Cu G ad0 wp z0 X0 s ad (c', R, z.2.2) X H locs cells slots := by
  subst hc'
  obtain ⟨⟨h1, h2, h3, h4, h5⟩, hdf, hold, hnew, hag, hS, hc, hs, hL, hA⟩ := U
  refine ⟨⟨fun k i hk => cat.ext (z := z) (ad := ad) (X := X) rfl (fun j _ => ⟨rfl, rfl, rfl, by show adq ad (R k i j) = adq ad (z.2.1 k i j); rw [hR k i j hk]⟩) (h1 k i hk), h2, h3, h4, fun k i j q hk hj hq => ?_⟩, hdf, hold, hnew, hag, hS, hc, hs, hL, hA⟩
  have hq : R k i j = some q := hq
  rw [hR k i j hk] at hq
  exact h5 k i j q hk hj hq
section RF
variable {y : Nat} {xt : List ExceptionTableEntry} {d mc ms : Nat} {wp : Nat → Nat → Prop} {z0 : Zz} {X0 : Mm} {QR : Option Av → Zz → Mm → Prop} {QX : Nat → Zz → Mm → Prop} {z : Zz} {pc : Nat} {ls : Lo} {st : List Av} {X : Mm}
/-- a walk goes on with other names for the same references -/
theorem v_refs (c' : Nat → Nat) (R : Nat → Nat → Nat → Option (Nat × Nat)) (hc' : c' = z.1) (hR : ∀ k i j, i < z.1 k → R k i j = z.2.1 k i j) (kk : V y xt d mc ms wp z0 X0 QR QX (c', R, z.2.2) pc ls st X) : V y xt d mc ms wp z0 X0 QR QX z pc ls st X := by
  intro l G ad0 p e s m args below meth c0 C ad H locs cells slots la U hl ol os
  exact kk l G ad0 p e s m args below meth c0 C ad H locs cells slots la (U.refs c' R hc' hR) hl (fun q hq => (ol q hq).cg hc') (fun v hv => (os v hv).cg hc')
end RF
