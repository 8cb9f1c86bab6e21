/-! calls that are one step: Object.<init>, Math.min, Math.max, System.arraycopy, String.length, String.charAt (printed by wip/whole/gen12.py) -/
/-- there is room -/
def rok (d mc ms : Nat) (z : Zz) : Bool := Nat.ble 4 d && (Nat.ble z.2.2.2.1 mc && Nat.ble z.2.2.2.2 ms)
theorem rok_of {d mc ms : Nat} {z : Zz} (h : rok d mc ms z = true) : 4 ≤ d ∧ z.2.2.2.1 ≤ mc ∧ z.2.2.2.2 ≤ ms := by
  unfold rok at h
  simp only [Bool.and_eq_true] at h
  exact ⟨Nat.le_of_ble_eq_true h.1, Nat.le_of_ble_eq_true h.2.1, Nat.le_of_ble_eq_true h.2.2⟩
theorem cat_sum (G : Gp) (ad : Nat → Nat → Nat) : ∀ st : List Av, ((st.map (cv G ad)).map fun v => v.category).sum ≤ 2 * st.length
  | [] => by simp
  | v :: st => by
    have h := cat_sum G ad st
    have h2 : (cv G ad v).category ≤ 2 := by rcases lv_cat (cv G ad v) with e | e <;> omega
    simp only [List.map_cons, List.sum_cons, List.length_cons]
    omega
section EOP
variable {y : Nat} {xt : List ExceptionTableEntry} {d mc ms : Nat} {wp : Nat → Nat → Prop} {z0 : Zz} {X0 : Mm} {QR : Option Av → Zz → Mm → Prop} {QX : Nat → Zz → Mm → Prop} {z : Zz} {pc : Nat} {ls : Lo} {st : List Av} {X : Mm}
theorem o_objInit {a k i : Nat} (h0 : (cid y, a) ∈ OBd) (hr : rok d mc ms z = true) (hs : st.length ≤ 12) (hd : decode (byt y) pc = .ok (.invokespecial a, 3)) (kk : V y xt d mc ms wp z0 X0 QR QX z (pc + 3) ls st X) : V y xt d mc ms wp z0 X0 QR QX z pc ls (aR k i :: st) X := by
  intro l G ad0 p e s m args below meth c0 C ad H locs cells slots la U hl ol os
  obtain ⟨r1, r2, r3⟩ := rok_of hr
  have h1 := cat_sum G ad st
  exact W.objInit C.1 C.2.1 C.2.2.2.1 (C.2.2.2.2.1 _ (OBd_in _ h0)) (C.2.2.2.2.1 _ fx_objI) (C.2.2.2.2.1 _ fx_objC) rfl (hl.1.trans C.2.2.1.symm) rfl hd (by show 1 ≤ d; omega) (by show 2 * 0 + _ + 12 ≤ 40 * d; omega) (kk l G ad0 p e s m args below meth c0 C ad H locs cells slots la U hl ol (oks_t os))
theorem o_min {q : Nat} {a b : Int32} (h0 : (cid y, q) ∈ MId) (hr : rok d mc ms z = true) (hs : st.length ≤ 12) (hd : decode (byt y) pc = .ok (.invokestatic q, 3)) (kk : V y xt d mc ms wp z0 X0 QR QX z (pc + 3) ls (aI (if b < a then b else a) :: st) X) : V y xt d mc ms wp z0 X0 QR QX z pc ls (aI b :: aI a :: st) X := by
  intro l G ad0 p e s m args below meth c0 C ad H locs cells slots la U hl ol os
  obtain ⟨r1, r2, r3⟩ := rok_of hr
  have h1 := cat_sum G ad st
  obtain ⟨-, -, -, -, -, -, hc, hsl, -, -⟩ := id U
  exact va_mmin C.1 C.2.1 (C.2.2.1.trans hl.1.symm) C.2.2.2.1 (C.2.2.2.2.1 _ (MId_in _ h0)) (C.2.2.2.2.1 _ fx_minS) (C.2.2.2.2.1 _ fx_maI) (C.2.2.2.2.1 _ fx_minC) (by show 1 ≤ d; omega) (by show _ + 13 ≤ 40 * d; omega) (by show _ ≤ mc; omega) (by show _ ≤ ms; omega) hd (kk l G ad0 p e s m args below meth c0 C ad H locs cells slots la U hl ol (oks_c trivial (oks_t (oks_t os))))
theorem o_max {q : Nat} {a b : Int32} (h0 : (cid y, q) ∈ MXd) (hr : rok d mc ms z = true) (hs : st.length ≤ 12) (hd : decode (byt y) pc = .ok (.invokestatic q, 3)) (kk : V y xt d mc ms wp z0 X0 QR QX z (pc + 3) ls (aI (if a < b then b else a) :: st) X) : V y xt d mc ms wp z0 X0 QR QX z pc ls (aI b :: aI a :: st) X := by
  intro l G ad0 p e s m args below meth c0 C ad H locs cells slots la U hl ol os
  obtain ⟨r1, r2, r3⟩ := rok_of hr
  have h1 := cat_sum G ad st
  obtain ⟨-, -, -, -, -, -, hc, hsl, -, -⟩ := id U
  exact va_mmax C.1 C.2.1 (C.2.2.1.trans hl.1.symm) C.2.2.2.1 (C.2.2.2.2.1 _ (MXd_in _ h0)) (C.2.2.2.2.1 _ fx_maxS) (C.2.2.2.2.1 _ fx_maI) (C.2.2.2.2.1 _ fx_maxC) (by show 1 ≤ d; omega) (by show _ + 13 ≤ 40 * d; omega) (by show _ ≤ mc; omega) (by show _ ≤ ms; omega) hd (kk l G ad0 p e s m args below meth c0 C ad H locs cells slots la U hl ol (oks_c trivial (oks_t (oks_t os))))
theorem nfw : nativeFrameWords "java/lang/System" "arraycopy" 5 ≤ 25 := by decide
theorem nn_toInt {z : Int32} (hz : ¬ z < 0) : z.toInt = (z.toNatClampNeg : Int) := by
  have hz0 : (0 : Int) ≤ z.toInt := by
    have := Int32.not_lt.mp hz
    simpa using Int32.le_iff_toInt_le.mp this
  show z.toInt = ((z.toInt.toNat : Nat) : Int)
  omega
theorem o_copyI {q ks is n0 kd id n1 : Nat} {sp dp n : Int32} (h0 : (cid y, q) ∈ CPd) (hr : rok d mc ms z = true) (hs : st.length ≤ 2) (hk0 : shp ks = (1, 0, n0)) (hk1 : shp kd = (1, 0, n1)) (h1 : ¬ sp < 0) (h2 : ¬ dp < 0) (h3 : ¬ n < 0) (h4 : ix sp + ix n ≤ aln z ks) (h5 : ix dp + ix n ≤ aln z kd) (hw : wp kd id)
    (hd : decode (byt y) pc = .ok (.invokestatic q, 3)) (kk : V y xt d mc ms wp z0 X0 QR QX z (pc + 3) ls st (cI X ks is (ix sp) kd id (ix dp) (ix n))) : V y xt d mc ms wp z0 X0 QR QX z pc ls (aI n :: aI dp :: aR kd id :: aI sp :: aR ks is :: st) X := by
  intro l G ad0 p e s m args below meth c0 C ad H locs cells slots la U hl ol os
  obtain ⟨r1, r2, r3⟩ := rok_of hr
  have hsum := cat_sum G ad st
  have hnw := nfw
  have hi0 : is < z.1 ks := oks_h (oks_t (oks_t (oks_t (oks_t os))))
  have hi1 : id < z.1 kd := oks_h (oks_t (oks_t os))
  have hP0 := (U.1.1 ks is hi0).1 (n68 hk0 rfl)
  rw [cel_a hk0] at hP0
  have hP1 := (U.1.1 kd id hi1).1 (n68 hk1 rfl)
  rw [cel_a hk1] at hP1
  have hc0 : H[ad ks is]? = some (arrV (G.2.1 0) (aln z ks) (fun q => .int (gI X ks is q))) := hP0
  have hc1 : H[ad kd id]? = some (arrV (G.2.1 0) (aln z kd) (fun q => .int (gI X kd id q))) := hP1
  have hT9 := (C.2.2.2.2.2.2.2.2.2.2.1.1.2 0 _ rfl).1
  obtain ⟨-, k0, hkk0, cm0, hkk0'⟩ := hT9 (aln z ks) (fun q => .int (gI X ks is q))
  obtain ⟨-, k1, hkk1, cm1, hkk1'⟩ := hT9 (aln z kd) (fun q => .int (gI X kd id q))
  have hhl : ad kd id < H.size := (Array.getElem?_eq_some_iff.mp hc1).1
  refine W.of (H' := H.setIfInBounds (ad kd id) (arrV (G.2.1 0) (aln z kd) (fun q => .int (va_cpy (gI X ks is) (gI X kd id) (ix sp) (ix dp) (ix n) q)))) (g2 := F0 m (pc + 3) la (st.map (cv G ad))) (locs' := _) (cells' := cells) (slots' := slots) (fun T hT Y => ?_) (kk l G ad0 p e s m args below meth c0 C ad _ _ cells slots la (U.store hi1 (n68 hk1 rfl) hw _ (fun k' i' h j' => cI_off h j') ?_ (by simp) (fun q hq => by simp [Array.getElem?_setIfInBounds, Ne.symm hq]) (l2 := (((arrV (G.2.1 0) (aln z ks) (fun q => Value.int (gI X ks is q))).stretch sp.toNatClampNeg n.toNatClampNeg).zipIdx.map (fun q => ⟨ad kd id, dp.toNatClampNeg + q.2⟩))) (fun q hq => by obtain ⟨z9, -, e9⟩ := List.mem_map.mp hq; rw [← e9])) hl ol (oks_t (oks_t (oks_t (oks_t (oks_t os))))))
  · obtain ⟨vm', X', step⟩ := Y.arraycopy C.1 C.2.2.2.1 (C.2.2.2.2.1 _ (CPd_in _ h0)) (C.2.2.2.2.1 _ fx_cpN) (C.2.2.2.2.1 _ fx_cpS) (C.2.2.2.2.1 _ fx_cpI) (src := ad ks is) (dst := ad kd id) (srcPos := sp) (destPos := dp) (n := n) (by rw [hT]; exact hc0) (by rw [hT]; exact hc1)
      (fun _ h => by cases h) (fun _ h => by cases h) (fun h => by cases h) (fun h => by cases h) hkk0 hkk1 hkk0' hkk1' (by show (refKind (aty 0) != refKind (aty 0) || (!refKind (aty 0) && aty 0 != aty 0)) = false; decide) h1 h2 h3
      (by rw [nn_toInt h1, nn_toInt h3, arrV_size]; have := h4; simp only [ix] at this; omega)
      (by rw [nn_toInt h2, nn_toInt h3, arrV_size]; have := h5; simp only [ix] at this; omega)
      (fun vm₁ _ i hi => by
        have e : (arrV (G.2.1 0) (aln z ks) (fun q => Value.int (gI X ks is q))).slots.getD (sp.toNatClampNeg + i) .null = .int (gI X ks is (sp.toNatClampNeg + i)) := by
          rw [Array.getD_eq_getD_getElem?, arrV_read _ _ (by have := h4; simp only [ix] at this; omega)]
          rfl
        refine ⟨?_, ?_⟩
        · rw [e]
          rfl
        · rw [e]
          exact trivial)
      (g := F0 m pc la (.int n :: .int dp :: .ref (ad kd id) :: .int sp :: .ref (ad ks is) :: st.map (cv G ad))) rfl (hl.1.trans C.2.2.1.symm) (rest := st.map (cv G ad)) rfl (by rw [C.2.1]; exact hd) (by show 1 ≤ d; omega) (by show 2 * 0 + _ + _ ≤ 40 * d; omega)
    have e1 : copied (arrV (G.2.1 0) (aln z ks) (fun q => .int (gI X ks is q))) (arrV (G.2.1 0) (aln z kd) (fun q => .int (gI X kd id q))) sp dp n = arrV (G.2.1 0) (aln z kd) (fun q => .int (va_cpy (gI X ks is) (gI X kd id) (ix sp) (ix dp) (ix n) q)) := va_copied (fun z => .int z) _ _ _ _ h4
    rw [e1] at X' step
    refine ⟨_, ?_, X', step⟩
    rw [← hT]
    rfl
  · rw [cel_a hk1]
    show (H.setIfInBounds (ad kd id) _)[ad kd id]? = some (arrV (G.2.1 0) (aln z kd) (fun q => .int (gI (cI X ks is (ix sp) kd id (ix dp) (ix n)) kd id q)))
    rw [cI_cpy]
    simp [Array.getElem?_setIfInBounds, hhl]
theorem o_copyJ {q ks is n0 kd id n1 : Nat} {sp dp n : Int32} (h0 : (cid y, q) ∈ CPd) (hr : rok d mc ms z = true) (hs : st.length ≤ 2) (hk0 : shp ks = (1, 2, n0)) (hk1 : shp kd = (1, 2, n1)) (h1 : ¬ sp < 0) (h2 : ¬ dp < 0) (h3 : ¬ n < 0) (h4 : ix sp + ix n ≤ aln z ks) (h5 : ix dp + ix n ≤ aln z kd) (hw : wp kd id)
    (hd : decode (byt y) pc = .ok (.invokestatic q, 3)) (kk : V y xt d mc ms wp z0 X0 QR QX z (pc + 3) ls st (cJ X ks is (ix sp) kd id (ix dp) (ix n))) : V y xt d mc ms wp z0 X0 QR QX z pc ls (aI n :: aI dp :: aR kd id :: aI sp :: aR ks is :: st) X := by
  intro l G ad0 p e s m args below meth c0 C ad H locs cells slots la U hl ol os
  obtain ⟨r1, r2, r3⟩ := rok_of hr
  have hsum := cat_sum G ad st
  have hnw := nfw
  have hi0 : is < z.1 ks := oks_h (oks_t (oks_t (oks_t (oks_t os))))
  have hi1 : id < z.1 kd := oks_h (oks_t (oks_t os))
  have hP0 := (U.1.1 ks is hi0).1 (n68 hk0 rfl)
  rw [cel_a hk0] at hP0
  have hP1 := (U.1.1 kd id hi1).1 (n68 hk1 rfl)
  rw [cel_a hk1] at hP1
  have hc0 : H[ad ks is]? = some (arrV (G.2.1 2) (aln z ks) (fun q => .long (gJ X ks is q))) := hP0
  have hc1 : H[ad kd id]? = some (arrV (G.2.1 2) (aln z kd) (fun q => .long (gJ X kd id q))) := hP1
  have hT9 := (C.2.2.2.2.2.2.2.2.2.2.1.1.2 2 _ rfl).1
  obtain ⟨-, k0, hkk0, cm0, hkk0'⟩ := hT9 (aln z ks) (fun q => .long (gJ X ks is q))
  obtain ⟨-, k1, hkk1, cm1, hkk1'⟩ := hT9 (aln z kd) (fun q => .long (gJ X kd id q))
  have hhl : ad kd id < H.size := (Array.getElem?_eq_some_iff.mp hc1).1
  refine W.of (H' := H.setIfInBounds (ad kd id) (arrV (G.2.1 2) (aln z kd) (fun q => .long (va_cpy (gJ X ks is) (gJ X kd id) (ix sp) (ix dp) (ix n) q)))) (g2 := F0 m (pc + 3) la (st.map (cv G ad))) (locs' := _) (cells' := cells) (slots' := slots) (fun T hT Y => ?_) (kk l G ad0 p e s m args below meth c0 C ad _ _ cells slots la (U.store hi1 (n68 hk1 rfl) hw _ (fun k' i' h j' => cJ_off h j') ?_ (by simp) (fun q hq => by simp [Array.getElem?_setIfInBounds, Ne.symm hq]) (l2 := (((arrV (G.2.1 2) (aln z ks) (fun q => Value.long (gJ X ks is q))).stretch sp.toNatClampNeg n.toNatClampNeg).zipIdx.map (fun q => ⟨ad kd id, dp.toNatClampNeg + q.2⟩))) (fun q hq => by obtain ⟨z9, -, e9⟩ := List.mem_map.mp hq; rw [← e9])) hl ol (oks_t (oks_t (oks_t (oks_t (oks_t os))))))
  · obtain ⟨vm', X', step⟩ := Y.arraycopy C.1 C.2.2.2.1 (C.2.2.2.2.1 _ (CPd_in _ h0)) (C.2.2.2.2.1 _ fx_cpN) (C.2.2.2.2.1 _ fx_cpS) (C.2.2.2.2.1 _ fx_cpI) (src := ad ks is) (dst := ad kd id) (srcPos := sp) (destPos := dp) (n := n) (by rw [hT]; exact hc0) (by rw [hT]; exact hc1)
      (fun _ h => by cases h) (fun _ h => by cases h) (fun h => by cases h) (fun h => by cases h) hkk0 hkk1 hkk0' hkk1' (by show (refKind (aty 2) != refKind (aty 2) || (!refKind (aty 2) && aty 2 != aty 2)) = false; decide) h1 h2 h3
      (by rw [nn_toInt h1, nn_toInt h3, arrV_size]; have := h4; simp only [ix] at this; omega)
      (by rw [nn_toInt h2, nn_toInt h3, arrV_size]; have := h5; simp only [ix] at this; omega)
      (fun vm₁ _ i hi => by
        have e : (arrV (G.2.1 2) (aln z ks) (fun q => Value.long (gJ X ks is q))).slots.getD (sp.toNatClampNeg + i) .null = .long (gJ X ks is (sp.toNatClampNeg + i)) := by
          rw [Array.getD_eq_getD_getElem?, arrV_read _ _ (by have := h4; simp only [ix] at this; omega)]
          rfl
        refine ⟨?_, ?_⟩
        · rw [e]
          rfl
        · rw [e]
          exact trivial)
      (g := F0 m pc la (.int n :: .int dp :: .ref (ad kd id) :: .int sp :: .ref (ad ks is) :: st.map (cv G ad))) rfl (hl.1.trans C.2.2.1.symm) (rest := st.map (cv G ad)) rfl (by rw [C.2.1]; exact hd) (by show 1 ≤ d; omega) (by show 2 * 0 + _ + _ ≤ 40 * d; omega)
    have e1 : copied (arrV (G.2.1 2) (aln z ks) (fun q => .long (gJ X ks is q))) (arrV (G.2.1 2) (aln z kd) (fun q => .long (gJ X kd id q))) sp dp n = arrV (G.2.1 2) (aln z kd) (fun q => .long (va_cpy (gJ X ks is) (gJ X kd id) (ix sp) (ix dp) (ix n) q)) := va_copied (fun z => .long z) _ _ _ _ h4
    rw [e1] at X' step
    refine ⟨_, ?_, X', step⟩
    rw [← hT]
    rfl
  · rw [cel_a hk1]
    show (H.setIfInBounds (ad kd id) _)[ad kd id]? = some (arrV (G.2.1 2) (aln z kd) (fun q => .long (gJ (cJ X ks is (ix sp) kd id (ix dp) (ix n)) kd id q)))
    rw [cJ_cpy]
    simp [Array.getElem?_setIfInBounds, hhl]
theorem Cu.kh {G : Gp} {ad0 ad : Nat → Nat → Nat} {wp : Nat → Nat → Prop} {z0 z : Zz} {X0 X : Mm} {s : State} {H : Heap} {locs : List Loc} {cells slots : Nat} (U : Cu G ad0 wp z0 X0 s ad z X H locs cells slots) (h : Kh G s s.heap) : Kh G s H := by
  obtain ⟨-, -, -, -, -, hS, -, -, -, hA⟩ := U
  exact h.kept fun a ha hn => hS.2.1 a ha fun q => hn (hA a q)
theorem o_slen {q j : Nat} (h0 : (cid y, q) ∈ SNd) (hr : rok d mc ms z = true) (hs : st.length ≤ 4) (hd : decode (byt y) pc = .ok (.invokevirtual q, 3)) (kk : V y xt d mc ms wp z0 X0 QR QX z (pc + 3) ls (aI (nI (slen j)) :: st) X) : V y xt d mc ms wp z0 X0 QR QX z pc ls (aS j :: st) X := by
  intro l G ad0 p e s m args below meth c0 C ad H locs cells slots la U hl ol os
  obtain ⟨r1, r2, r3⟩ := rok_of hr
  have h1 := cat_sum G ad st
  obtain ⟨-, -, -, -, -, hS, hc, hsl, -, hA⟩ := id U
  have hKh := U.kh C.2.2.2.2.2.2.2.2.2.2.2
  have hj : j < txn := oks_h os
  obtain ⟨adV, hvk⟩ := C.2.2.2.2.2.2.2.2.2.2.2.2.2.1
  refine vp_callSi (W.runV (C := "java/lang/String") (Ts := TT) (As := []) (rest := st.map (cv G ad)) ⟨C.1, C.2.1, C.2.2.1, C.2.2.2.1, C.2.2.2.2.1⟩ (jc_len l G j hj) ⟨callB_of 0 C.2.2.2.2.1 (fun w hw => ⟨TT_all jw_lenC w hw, good_of_word (List.mem_filter.mp (TT_all jw_lenC w hw)).2⟩) rfl rfl rfl (C.2.2.2.2.1 _ jw_ini) (C.2.2.2.2.1 _ (SNd_in _ h0)) (by decide +kernel) ⟨by show 1 + 1 ≤ d; omega, by show 8 + (1 + 11) + 40 ≤ 40 * d; omega⟩, C.2.2.2.2.1 _ jw_lenI, C.2.2.2.2.1 _ jw_lenV⟩ ⟨fun a U g mk q => ⟨q.1, q.2.moved (Vm.Alike.refl U.vm)⟩, vk_recv (hvk.narrow hA) hj hS, fun U2 hU hW => ⟨rfl, by rw [hU]; exact hKh.moved hW.alike⟩⟩ rfl rfl hl.1 rfl (by show 2 * 0 + _ ≤ 8; omega) hd ⟨by show _ + 0 ≤ mc; omega, by show _ + 0 ≤ ms; omega⟩) (fun r hr9 => ?_)
  subst hr9
  exact kk l G ad0 p e s m args below meth c0 C ad H locs cells slots la U hl ol (oks_c trivial (oks_t os))
theorem o_schr {q j : Nat} {i : Int32} (h0 : (cid y, q) ∈ SCd) (hr : rok d mc ms z = true) (hs : st.length ≤ 4) (hin : vp_in i (slen j)) (hd : decode (byt y) pc = .ok (.invokevirtual q, 3)) (kk : V y xt d mc ms wp z0 X0 QR QX z (pc + 3) ls (aI (schr j (ix i)) :: st) X) : V y xt d mc ms wp z0 X0 QR QX z pc ls (aI i :: aS j :: st) X := by
  intro l G ad0 p e s m args below meth c0 C ad H locs cells slots la U hl ol os
  obtain ⟨r1, r2, r3⟩ := rok_of hr
  have h1 := cat_sum G ad st
  obtain ⟨-, -, -, -, -, hS, hc, hsl, -, hA⟩ := id U
  have hKh := U.kh C.2.2.2.2.2.2.2.2.2.2.2
  have hj : j < txn := oks_h (oks_t os)
  obtain ⟨adV, hvk⟩ := C.2.2.2.2.2.2.2.2.2.2.2.2.2.1
  refine vp_callSi (W.runV (C := "java/lang/String") (Ts := TT) (As := [.int i]) (rest := st.map (cv G ad)) ⟨C.1, C.2.1, C.2.2.1, C.2.2.2.1, C.2.2.2.2.1⟩ (jc_cha l G i j hj) ⟨callB_of 1 C.2.2.2.2.1 (fun w hw => ⟨TT_all jw_chaC w hw, good_of_word (List.mem_filter.mp (TT_all jw_chaC w hw)).2⟩) rfl rfl rfl (C.2.2.2.2.1 _ jw_ini) (C.2.2.2.2.1 _ (SCd_in _ h0)) (by decide +kernel) ⟨by show 3 + 1 ≤ d; omega, by show 8 + (2 + 11) + 120 ≤ 40 * d; omega⟩, C.2.2.2.2.1 _ jw_chaI, C.2.2.2.2.1 _ jw_chaV⟩ ⟨fun a U g mk q => ⟨q.1, q.2.1, q.2.2.moved (Vm.Alike.refl U.vm)⟩, vk_recv (hvk.narrow hA) hj hS, fun U2 hU hW => ⟨rfl, hin, by rw [hU]; exact hKh.moved hW.alike⟩⟩ rfl rfl hl.1 rfl (by show 2 * 0 + _ ≤ 8; omega) hd ⟨by show _ + 0 ≤ mc; omega, by show _ + 0 ≤ ms; omega⟩) (fun r hr9 => ?_)
  subst hr9
  exact kk l G ad0 p e s m args below meth c0 C ad H locs cells slots la U hl ol (oks_c trivial (oks_t (oks_t os)))
end EOP
