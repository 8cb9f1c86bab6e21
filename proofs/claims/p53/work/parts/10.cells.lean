/-! fields and arrays, over the machine (printed by wip/whole/gen10.py) -/
theorem map_set {f f' : Nat → Value} {n b : Nat} {v : Value} (hb : f' b = v) (ho : ∀ j, j ≠ b → f' j = f j) : (List.range n).map f' = ((List.range n).map f).set b v := by
  apply List.ext_getElem?
  intro j
  rw [List.getElem?_set]
  by_cases hj : b = j
  · subst hj
    by_cases hn : b < n <;> simp [hn, hb]
  · rw [if_neg hj]
    by_cases hn : j < n <;> simp [hn, ho j (Ne.symm hj)]
section MEM
variable {y : Nat} {xt : List ExceptionTableEntry} {d mc ms : Nat} {wp : Nat → Nat → Prop} {z0 : Zz} {X0 : Mm} {QR : Option Av → Zz → Mm → Prop} {QX : Nat → Zz → Mm → Prop} {z : Zz} {pc : Nat} {ls : Lo} {st : List Av} {X : Mm}
theorem o_get {k i a b c n : Nat} {v : Av} (h0 : (cid y, a, c, b) ∈ FLd) (h1 : shp k = (0, c, n)) (h2 : b < n) (hv : ∀ (G : Gp) (ad : Nat → Nat → Nat), fv ad z X k i c b = cv G ad v) (hok : ∀ (G : Gp) (ad : Nat → Nat → Nat) (H : Heap), Hp G ad z X H → i < z.1 k → okv z v)
    (hd : decode (byt y) pc = .ok (.getfield a, 3)) (kk : V y xt d mc ms wp z0 X0 QR QX z (pc + 3) ls (v :: st) X) : V y xt d mc ms wp z0 X0 QR QX z pc ls (aR k i :: st) X := by
  intro l G ad0 p e s m args below meth c0 C ad H locs cells slots la U hl ol os
  have hi : i < z.1 k := oks_h os
  have hb := FLd_ok _ h0
  refine va_get (C := (vck c).1) (T := (vck c).2.1) (N := (vck c).2.2) (ref := ((vck c).2.1 b).1) C.1 C.2.1 C.2.2.2.2.1 (lay_in hb.2) C.2.2.2.1 C.2.2.2.2.2.2.2.2.2.2.1.1 (sub1 U.1 (n68 h1 rfl) hi) 0 (fs := (List.range n).map (fv ad z X k i c)) (by rw [cel_o h1]; rfl) (vcl_at hb.2) b hb.1 (C.2.2.2.2.1 _ (FLd_in _ h0)) (fun _ h => h) (fv_at h2) hd ?_
  rw [hv G ad]
  exact kk l G ad0 p e s m args below meth c0 C ad H locs cells slots la U hl ol (oks_c (hok G ad H U.1 hi) (oks_t os))
theorem o_put {k i a b c n : Nat} {v : Av} {X' : Mm} (h0 : (cid y, a, c, b) ∈ FLd) (h1 : shp k = (0, c, n)) (h2 : b < n) (hfin : ((vck c).2.1 b).2.2.2 = false) (hw : wp k i)
    (hX : ∀ k' i', ¬ (k' = k ∧ i' = i) → ∀ j, gI X' k' i' j = gI X k' i' j ∧ gJ X' k' i' j = gJ X k' i' j ∧ gD X' k' i' j = gD X k' i' j) (hb1 : ∀ (G : Gp) (ad : Nat → Nat → Nat), fv ad z X' k i c b = cv G ad v) (hb2 : ∀ (ad : Nat → Nat → Nat) j, j ≠ b → fv ad z X' k i c j = fv ad z X k i c j)
    (hn : ∀ (G : Gp) (ad : Nat → Nat → Nat), narrow (vty c b) (cv G ad v) = cv G ad v) (hfit : ∀ (G : Gp) (ad : Nat → Nat → Nat), fits (vty c b) (cv G ad v) = true)
    (hd : decode (byt y) pc = .ok (.putfield a, 3)) (kk : V y xt d mc ms wp z0 X0 QR QX z (pc + 3) ls st X') : V y xt d mc ms wp z0 X0 QR QX z pc ls (v :: aR k i :: st) X := by
  intro l G ad0 p e s m args below meth c0 C ad H locs cells slots la U hl ol os
  have hi : i < z.1 k := oks_h (oks_t os)
  have hb := FLd_ok _ h0
  have hK := C.2.2.2.2.2.2.2.2.2.2.1.1
  have hc := vcl_at hb.2
  have hap := va_apart (own := RN (cid y)) (C := (vck c).1) (T := (vck c).2.1) (N := (vck c).2.2) C.2.2.2.2.1 (lay_in hb.2) (vty c) (vty_ok c hb.2) (vnm_ok c hb.2) hK hc
  have hP := (U.1.1 k i hi).1 (n68 h1 rfl)
  rw [cel_o h1] at hP
  obtain ⟨r, g1, cell, q1, q2, q3, q4⟩ := hP
  have hr : r = vck c := Option.some.inj (g1.symm.trans hc)
  subst hr
  obtain ⟨hS, hfc, kC, hkC, hkind⟩ := hK.1 c _ hc
  obtain ⟨cf, kf, fi, f, hfi, hsl⟩ := hS b hb.1
  have hlay := C.2.2.2.2.1 _ (lay_in hb.2 _ (u_in_lay hb.1))
  unfold u_lay at hlay
  rw [if_neg (by rw [hfin]; decide)] at hlay
  have hst := (u_facts hfc hkC (u_lays C.2.2.2.2.1 (lay_in hb.2) hb.1) hfi).1
  have h6 := u_store hfc hkC hkind hlay hfi (vty_ok c hb.2 b hb.1) (hn G ad) (hfit G ad)
  refine W.putK C.1 C.2.1 (f := f) ⟨C.2.2.2.1, C.2.2.2.2.1 _ (FLd_in _ h0), ⟨_, _, _, hfi⟩, hst⟩ (by rw [q2]; exact h6) q1 q3 (by rw [hsl]; exact k2_hasslot (q4 b hb.1)) rfl rfl hd fun H' e1 e2 e3 => ?_
  rw [hsl] at e1 ⊢
  refine kk l G ad0 p e s m args below meth c0 C ad H' _ cells slots la (U.store hi (n68 h1 rfl) hw X' hX ?_ e2 e3 (l2 := [⟨ad k i, (G.1.2 c) b⟩]) (fun q hq => by rw [List.mem_singleton.mp hq])) hl ol (oks_t (oks_t os))
  rw [cel_o h1, map_set (hb1 G ad) (hb2 ad)]
  exact ⟨_, hc, t_OB.to (V := updV (vp_V ((List.range n).map (fv ad z X k i c))) b (cv G ad v)) ⟨_, e1, q2, q3, t_set q4 hap hb.1 (cv G ad v)⟩ (fun j _ => vp_updV_set (by simpa using h2) (cv G ad v) j)⟩
theorem o_iaload {k i n : Nat} {j : Int32} (h1 : shp k = (1, 0, n)) (hin : vp_in j (aln z k)) (hd : decode (byt y) pc = .ok (.iaload, 1)) (kk : V y xt d mc ms wp z0 X0 QR QX z (pc + 1) ls (aI (gI X k i (ix j)) :: st) X) : V y xt d mc ms wp z0 X0 QR QX z pc ls (aI j :: aR k i :: st) X := by
  intro l G ad0 p e s m args below meth c0 C ad H locs cells slots la U hl ol os
  have hi : i < z.1 k := oks_h (oks_t os)
  exact va_iald C.1 C.2.1 C.2.2.2.2.2.2.2.2.2.2.1.1 (sub1 U.1 (n68 h1 rfl) hi) 0 0 (by rw [cel_a h1]; rfl) rfl hin hd (kk l G ad0 p e s m args below meth c0 C ad H locs cells slots la U hl ol (oks_c trivial (oks_t (oks_t os))))
theorem o_baload {k i n : Nat} {j : Int32} (h1 : shp k = (1, 1, n)) (hin : vp_in j (aln z k)) (hd : decode (byt y) pc = .ok (.baload, 1)) (kk : V y xt d mc ms wp z0 X0 QR QX z (pc + 1) ls (aI (gI X k i (ix j)) :: st) X) : V y xt d mc ms wp z0 X0 QR QX z pc ls (aI j :: aR k i :: st) X := by
  intro l G ad0 p e s m args below meth c0 C ad H locs cells slots la U hl ol os
  have hi : i < z.1 k := oks_h (oks_t os)
  exact va_bald C.1 C.2.1 C.2.2.2.2.2.2.2.2.2.2.1.1 (sub1 U.1 (n68 h1 rfl) hi) 0 1 (by rw [cel_a h1]; rfl) rfl hin hd (kk l G ad0 p e s m args below meth c0 C ad H locs cells slots la U hl ol (oks_c trivial (oks_t (oks_t os))))
theorem o_laload {k i n : Nat} {j : Int32} (h1 : shp k = (1, 2, n)) (hin : vp_in j (aln z k)) (hd : decode (byt y) pc = .ok (.laload, 1)) (kk : V y xt d mc ms wp z0 X0 QR QX z (pc + 1) ls (aJ (gJ X k i (ix j)) :: st) X) : V y xt d mc ms wp z0 X0 QR QX z pc ls (aI j :: aR k i :: st) X := by
  intro l G ad0 p e s m args below meth c0 C ad H locs cells slots la U hl ol os
  have hi : i < z.1 k := oks_h (oks_t os)
  exact va_lald C.1 C.2.1 C.2.2.2.2.2.2.2.2.2.2.1.1 (sub1 U.1 (n68 h1 rfl) hi) 0 2 (by rw [cel_a h1]; rfl) rfl hin hd (kk l G ad0 p e s m args below meth c0 C ad H locs cells slots la U hl ol (oks_c trivial (oks_t (oks_t os))))
/-- no row of doubles here -/
theorem sh3 {k n : Nat} (h : shp k = (1, 3, n)) : False := by
  have h0 : ∀ x ∈ shl, ¬ (x.1 = 1 ∧ x.2.1 = 3) := by decide +kernel
  unfold shp at h
  cases hb : Nat.ble 1000 k with
  | true =>
    rw [hb] at h
    have h : ((1 : Nat), (1 : Nat), k - 1000) = (1, 3, n) := h
    simp at h
  | false =>
    rw [hb] at h
    have h : shl.getD k (9, 0, 0) = (1, 3, n) := h
    rw [List.getD_eq_getElem?_getD] at h
    cases hk : shl[k]? with
    | none =>
      rw [hk] at h
      have h : ((9 : Nat), (0 : Nat), (0 : Nat)) = (1, 3, n) := h
      simp at h
    | some x =>
      rw [hk] at h
      have h : x = (1, 3, n) := h
      exact h0 x (List.mem_of_getElem? hk) (by rw [h]; exact ⟨rfl, rfl⟩)
theorem o_daload {k i n : Nat} {j : Int32} (h1 : shp k = (1, 3, n)) (hin : vp_in j (aln z k)) (hd : decode (byt y) pc = .ok (.daload, 1)) (kk : V y xt d mc ms wp z0 X0 QR QX z (pc + 1) ls (aD (gD X k i (ix j)) :: st) X) : V y xt d mc ms wp z0 X0 QR QX z pc ls (aI j :: aR k i :: st) X := (sh3 h1).elim
theorem o_iastore {k i n : Nat} {j : Int32} {x : Int32} (h1 : shp k = (1, 0, n)) (hin : vp_in j (aln z k)) (hw : wp k i) (hd : decode (byt y) pc = .ok (.iastore, 1)) (kk : V y xt d mc ms wp z0 X0 QR QX z (pc + 1) ls st (uI X k i (ix j) x)) : V y xt d mc ms wp z0 X0 QR QX z pc ls (aI x :: aI j :: aR k i :: st) X := by
  intro l G ad0 p e s m args below meth c0 C ad H locs cells slots la U hl ol os
  have hi : i < z.1 k := oks_h (oks_t (oks_t os))
  have hP := (U.1.1 k i hi).1 (n68 h1 rfl)
  rw [cel_a h1] at hP
  have hc : H[ad k i]? = some (arrV (G.2.1 0) (aln z k) (fun q => .int (gI X k i q))) := hP
  refine W.iast C.1 C.2.1 hc ((C.2.2.2.2.2.2.2.2.2.2.1.1.2 0 _ rfl).1 (aln z k) _) (fun q => by cases q) (by show ¬ (j < 0 ∨ (arrV _ _ _).slots.size ≤ _); rw [arrV_size]; exact hin) rfl rfl hd fun H1 e1 e2 e3 => ?_
  refine kk l G ad0 p e s m args below meth c0 C ad H1 _ cells slots la (U.store hi (n68 h1 rfl) hw _ (fun k' i' h j' => uI_off h j') ?_ e2 e3 (l2 := [⟨ad k i, j.toNatClampNeg⟩]) (fun q hq => by rw [List.mem_singleton.mp hq])) hl ol (oks_t (oks_t (oks_t os)))
  rw [cel_a h1]
  show H1[ad k i]? = some (arrV (G.2.1 0) (aln z k) (fun q => .int (gI (uI X k i (ix j) x) k i q)))
  rw [e1, arrV_store, uI_upd]
  congr 2
  funext q
  by_cases hq : q = j.toNatClampNeg
  · subst hq
    simp [updV, upd, ix]
  · simp [updV, upd, ix, hq]
theorem o_bastore {k i n : Nat} {j : Int32} {x : Int32} (h1 : shp k = (1, 1, n)) (hin : vp_in j (aln z k)) (hw : wp k i) (hd : decode (byt y) pc = .ok (.bastore, 1)) (kk : V y xt d mc ms wp z0 X0 QR QX z (pc + 1) ls st (uI X k i (ix j) x.toInt8.toInt32)) : V y xt d mc ms wp z0 X0 QR QX z pc ls (aI x :: aI j :: aR k i :: st) X := by
  intro l G ad0 p e s m args below meth c0 C ad H locs cells slots la U hl ol os
  have hi : i < z.1 k := oks_h (oks_t (oks_t os))
  have hP := (U.1.1 k i hi).1 (n68 h1 rfl)
  rw [cel_a h1] at hP
  have hc : H[ad k i]? = some (arrV (G.2.1 1) (aln z k) (fun q => .int (gI X k i q))) := hP
  refine W.bast C.1 C.2.1 hc ((C.2.2.2.2.2.2.2.2.2.2.1.1.2 1 _ rfl).1 (aln z k) _) (fun q => by cases q) (by show ¬ (j < 0 ∨ (arrV _ _ _).slots.size ≤ _); rw [arrV_size]; exact hin) rfl rfl hd fun H1 e1 e2 e3 => ?_
  refine kk l G ad0 p e s m args below meth c0 C ad H1 _ cells slots la (U.store hi (n68 h1 rfl) hw _ (fun k' i' h j' => uI_off h j') ?_ e2 e3 (l2 := [⟨ad k i, j.toNatClampNeg⟩]) (fun q hq => by rw [List.mem_singleton.mp hq])) hl ol (oks_t (oks_t (oks_t os)))
  rw [cel_a h1]
  show H1[ad k i]? = some (arrV (G.2.1 1) (aln z k) (fun q => .int (gI (uI X k i (ix j) x.toInt8.toInt32) k i q)))
  rw [e1, arrV_store, uI_upd]
  congr 2
  funext q
  by_cases hq : q = j.toNatClampNeg
  · subst hq
    simp [updV, upd, ix]
    rfl
  · simp [updV, upd, ix, hq]
theorem o_lastore {k i n : Nat} {j : Int32} {x : Int64} (h1 : shp k = (1, 2, n)) (hin : vp_in j (aln z k)) (hw : wp k i) (hd : decode (byt y) pc = .ok (.lastore, 1)) (kk : V y xt d mc ms wp z0 X0 QR QX z (pc + 1) ls st (uJ X k i (ix j) x)) : V y xt d mc ms wp z0 X0 QR QX z pc ls (aJ x :: aI j :: aR k i :: st) X := by
  intro l G ad0 p e s m args below meth c0 C ad H locs cells slots la U hl ol os
  have hi : i < z.1 k := oks_h (oks_t (oks_t os))
  have hP := (U.1.1 k i hi).1 (n68 h1 rfl)
  rw [cel_a h1] at hP
  have hc : H[ad k i]? = some (arrV (G.2.1 2) (aln z k) (fun q => .long (gJ X k i q))) := hP
  refine W.last C.1 C.2.1 hc ((C.2.2.2.2.2.2.2.2.2.2.1.1.2 2 _ rfl).1 (aln z k) _) (fun q => by cases q) (by show ¬ (j < 0 ∨ (arrV _ _ _).slots.size ≤ _); rw [arrV_size]; exact hin) rfl rfl hd fun H1 e1 e2 e3 => ?_
  refine kk l G ad0 p e s m args below meth c0 C ad H1 _ cells slots la (U.store hi (n68 h1 rfl) hw _ (fun k' i' h j' => uJ_off h j') ?_ e2 e3 (l2 := [⟨ad k i, j.toNatClampNeg⟩]) (fun q hq => by rw [List.mem_singleton.mp hq])) hl ol (oks_t (oks_t (oks_t os)))
  rw [cel_a h1]
  show H1[ad k i]? = some (arrV (G.2.1 2) (aln z k) (fun q => .long (gJ (uJ X k i (ix j) x) k i q)))
  rw [e1, arrV_store, uJ_upd]
  congr 2
  funext q
  by_cases hq : q = j.toNatClampNeg
  · subst hq
    simp [updV, vp_updL, ix]
  · simp [updV, vp_updL, ix, hq]
theorem o_dastore {k i n : Nat} {j : Int32} {x : UInt64} (h1 : shp k = (1, 3, n)) (hin : vp_in j (aln z k)) (hw : wp k i) (hd : decode (byt y) pc = .ok (.dastore, 1)) (kk : V y xt d mc ms wp z0 X0 QR QX z (pc + 1) ls st (uD X k i (ix j) x)) : V y xt d mc ms wp z0 X0 QR QX z pc ls (aD x :: aI j :: aR k i :: st) X := (sh3 h1).elim
theorem o_aaload4 {k i n k' i' : Nat} {j : Int32} (h1 : shp k = (1, 4, n)) (hin : vp_in j (aln z k)) (hr : z.2.1 k i (ix j) = some (k', i')) (hd : decode (byt y) pc = .ok (.aaload, 1)) (kk : V y xt d mc ms wp z0 X0 QR QX z (pc + 1) ls (aR k' i' :: st) X) : V y xt d mc ms wp z0 X0 QR QX z pc ls (aI j :: aR k i :: st) X := by
  intro l G ad0 p e s m args below meth c0 C ad H locs cells slots la U hl ol os
  have hi : i < z.1 k := oks_h (oks_t os)
  have hP := (U.1.1 k i hi).1 (n68 h1 rfl)
  rw [cel_a h1] at hP
  have hc : H[ad k i]? = some (arrV (G.2.1 4) (aln z k) (fun q => va_rf (adq ad (z.2.1 k i q)))) := hP
  have hlt : j.toNatClampNeg < aln z k := Nat.not_le.mp fun q => hin (Or.inr q)
  refine W.aald (v := .ref (ad k' i')) C.1 C.2.1 hc ((C.2.2.2.2.2.2.2.2.2.2.1.1.2 4 _ rfl).1 (aln z k) _) rfl (fun q => by cases q) (by show ¬ (j < 0 ∨ (arrV _ _ _).slots.size ≤ _); rw [arrV_size]; exact hin) (by show (arrV _ _ _).slots[_]? = _; rw [arrV_read _ _ hlt, show z.2.1 k i j.toNatClampNeg = some (k', i') from hr]; rfl) rfl rfl hd ?_
  exact kk l G ad0 p e s m args below meth c0 C ad H locs cells slots la U hl ol (oks_c (U.1.2.2.2.2 k i _ _ hi hlt hr) (oks_t (oks_t os)))
theorem o_aaload5 {k i n k' i' : Nat} {j : Int32} (h1 : shp k = (1, 5, n)) (hin : vp_in j (aln z k)) (hr : z.2.1 k i (ix j) = some (k', i')) (hd : decode (byt y) pc = .ok (.aaload, 1)) (kk : V y xt d mc ms wp z0 X0 QR QX z (pc + 1) ls (aR k' i' :: st) X) : V y xt d mc ms wp z0 X0 QR QX z pc ls (aI j :: aR k i :: st) X := by
  intro l G ad0 p e s m args below meth c0 C ad H locs cells slots la U hl ol os
  have hi : i < z.1 k := oks_h (oks_t os)
  have hP := (U.1.1 k i hi).1 (n68 h1 rfl)
  rw [cel_a h1] at hP
  have hc : H[ad k i]? = some (arrV (G.2.1 5) (aln z k) (fun q => va_rf (adq ad (z.2.1 k i q)))) := hP
  have hlt : j.toNatClampNeg < aln z k := Nat.not_le.mp fun q => hin (Or.inr q)
  refine W.aald (v := .ref (ad k' i')) C.1 C.2.1 hc ((C.2.2.2.2.2.2.2.2.2.2.1.1.2 5 _ rfl).1 (aln z k) _) rfl (fun q => by cases q) (by show ¬ (j < 0 ∨ (arrV _ _ _).slots.size ≤ _); rw [arrV_size]; exact hin) (by show (arrV _ _ _).slots[_]? = _; rw [arrV_read _ _ hlt, show z.2.1 k i j.toNatClampNeg = some (k', i') from hr]; rfl) rfl rfl hd ?_
  exact kk l G ad0 p e s m args below meth c0 C ad H locs cells slots la U hl ol (oks_c (U.1.2.2.2.2 k i _ _ hi hlt hr) (oks_t (oks_t os)))
theorem o_arraylength {k i t n : Nat} (h1 : shp k = (1, t, n)) (ht : t < 6) (hd : decode (byt y) pc = .ok (.arraylength, 1)) (kk : V y xt d mc ms wp z0 X0 QR QX z (pc + 1) ls (aI (nI (aln z k)) :: st) X) : V y xt d mc ms wp z0 X0 QR QX z pc ls (aR k i :: st) X := by
  intro l G ad0 p e s m args below meth c0 C ad H locs cells slots la U hl ol os
  have hi : i < z.1 k := oks_h os
  have ht2 : (tyl G)[t]? = some (G.2.1 t, aty t) := by
    match t, ht with
    | 0, _ => rfl
    | 1, _ => rfl
    | 2, _ => rfl
    | 3, _ => exact (sh3 h1).elim
    | 4, _ => rfl
    | 5, _ => rfl
    | t + 6, h => omega
  exact va_alen C.1 C.2.1 C.2.2.2.2.2.2.2.2.2.2.1.1 (sub1 U.1 (n68 h1 rfl) hi) 0 t (x := (aln z k, arc ad z X k i t)) (by rw [cel_a h1]; rfl) ht2 rfl hd (kk l G ad0 p e s m args below meth c0 C ad H locs cells slots la U hl ol (oks_c trivial (oks_t os)))
theorem sx_arr {G : Gp} {s : State} {scr : Cell} (hW : scW G s) (h2 : scr.cls = G.2.2.2.2) (h3 : ∀ k, scr.vm ≠ .statics k) : s.isArrayOf scr .int := by
  obtain ⟨k, comp, w1, w2⟩ := hW
  exact ⟨h3, k, by rw [h2]; exact w1, comp, w2⟩
theorem o_sload {i : Nat} {j : Int32} (hin : vp_in j (aln z 68)) (hd : decode (byt y) pc = .ok (.iaload, 1)) (kk : V y xt d mc ms wp z0 X0 QR QX z (pc + 1) ls (aI (gI X 68 i (ix j)) :: st) X) : V y xt d mc ms wp z0 X0 QR QX z pc ls (aI j :: aR 68 i :: st) X := by
  intro l G ad0 p e s m args below meth c0 C ad H locs cells slots la U hl ol os
  have hi : i < z.1 68 := oks_h (oks_t os)
  obtain ⟨scr, h1, h2, h3, h4, h5, h6⟩ := (U.1.1 68 i hi).2 rfl
  have hA := sx_arr C.2.2.2.2.2.2.2.2.2.2.1.2.2.2.2.2.2.2.1 h2 h3
  have hlt : j.toNatClampNeg < z.2.2.1 := Nat.not_le.mp fun q => hin (Or.inr q)
  exact W.iald (v := .int (gI X 68 i j.toNatClampNeg)) C.1 C.2.1 h1 hA h4 (by rw [h5]; exact hin) (h6 _ hlt) rfl rfl hd (kk l G ad0 p e s m args below meth c0 C ad H locs cells slots la U hl ol (oks_c trivial (oks_t (oks_t os))))
theorem o_scln {i : Nat} (hd : decode (byt y) pc = .ok (.arraylength, 1)) (kk : V y xt d mc ms wp z0 X0 QR QX z (pc + 1) ls (aI (nI (aln z 68)) :: st) X) : V y xt d mc ms wp z0 X0 QR QX z pc ls (aR 68 i :: st) X := by
  intro l G ad0 p e s m args below meth c0 C ad H locs cells slots la U hl ol os
  have hi : i < z.1 68 := oks_h os
  obtain ⟨scr, h1, h2, h3, h4, h5, h6⟩ := (U.1.1 68 i hi).2 rfl
  have hA := sx_arr C.2.2.2.2.2.2.2.2.2.2.1.2.2.2.2.2.2.2.1 h2 h3
  exact W.alen (n := nI (aln z 68)) C.1 C.2.1 h1 hA (by rw [h5] <;> rfl) rfl rfl hd (kk l G ad0 p e s m args below meth c0 C ad H locs cells slots la U hl ol (oks_c trivial (oks_t os)))
end MEM
