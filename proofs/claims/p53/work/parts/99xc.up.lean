/-! calls of members of the class above (printed by wip/p53/new/xc.py) -/
section CU
variable {y : Nat} {xt : List ExceptionTableEntry} {d mc ms : Nat} {wp : Nat → Nat → Prop} {z0 : Zz} {X0 : Mm} {QR : Option Av → Zz → Mm → Prop} {QX : Nat → Zz → Mm → Prop} {z : Zz} {pc : Nat} {ls : Lo} {st : List Av} {X : Mm}
theorem v_callU (K : ∀ p, chk y p = true) {v : Int32} {a c np x y' d' mc' ms' k9 i9 c9 n9 : Nat} {wp' : Nat → Nat → Prop} {As stk : List Av} {z1 : Zz} {QR' : Option Av → Zz → Mm → Prop} {QX' : Nat → Zz → Mm → Prop} (ht : tb y pc = (96, v, a, y', c, np)) (hU : jU (cid y) a x y') (hde : (nmy x).desc = (nmy y').desc) (hy0 : Nat.ble y' 299 = true) (hC : Ct y' d' mc' ms' wp' z1 X (aR k9 i9 :: As) QR' QX') (hsh : shp k9 = (0, c9, n9)) (hcl : (vck c9).1 = RN 12) (hc9 : Nat.ble (c9 + 1) vcl.length = true) (hs : stk = rapp (aR k9 i9 :: As) st) (hz : z1.1 = z.1 ∧ z1.2.1 = z.2.1 ∧ z1.2.2.1 = z.2.2.1) (hw : ∀ k i, wp' k i → wp k i) (hlen : As.length = npl.getD y' 0) (hd : Nat.ble (d' + 1) d = true) (hm : (Nat.ble (z.2.2.2.1 + mc') mc && Nat.ble (z.2.2.2.2 + ms') ms) = true) (hst : Nat.ble st.length 4 = true)
    (kk : ∀ (w : Option Av) (z2 : Zz) (X2 : Mm), QR' w z2 X2 → Ag wp' X X2 → V y xt d mc ms wp z0 X0 QR QX (z2.1, z2.2.1, z.2.2.1, z.2.2.2.1 + mc', z.2.2.2.2 + ms') np ls (w.toList ++ st) X2)
    (kx : ∀ (x : Nat) (z2 : Zz) (X2 : Mm), QX' x z2 X2 → Ag wp' X X2 → VX y xt d mc ms wp z0 X0 QR QX (z2.1, z2.2.1, z.2.2.1, z.2.2.2.1 + mc', z.2.2.2.2 + ms') pc ls x X2) : V y xt d mc ms wp z0 X0 QR QX z pc ls stk X := by
  intro l G ad0 p e s m args below meth c0 C ad H locs cells slots la U hl ol os
  obtain ⟨h1, h2, h3⟩ := chk_sp K ht rfl
  have h3 : np = pc + 3 := h3.elim (fun q => by cases q) id
  subst h3
  obtain ⟨hm1, hm2⟩ := Bool.and_eq_true_iff.mp hm
  have hm1 := Nat.le_of_ble_eq_true hm1
  have hm2 := Nat.le_of_ble_eq_true hm2
  have hd := Nat.le_of_ble_eq_true hd
  have hst := Nat.le_of_ble_eq_true hst
  have hsum := cat_sum G ad st
  have hc1 := U.2.2.2.2.2.2.1
  have hc2 := U.2.2.2.2.2.2.2.1
  have hy3 : y' < 300 := Nat.lt_succ_of_le (Nat.le_of_ble_eq_true hy0)
  have hyN : y' < NM := Nat.lt_of_lt_of_le hy3 (by decide)
  have hmx := mx_ok y' hyN
  subst hs
  obtain ⟨oA, oS⟩ := oks_rapp os
  have hrec := va_recv C.2.2.2.2.2.2.2.2.2.2.1.1 (sub1 U.1 (n68 hsh rfl) (oks_h oA)) (vcl_at (Nat.le_of_ble_eq_true hc9)) (q0 := 0) (fs := (List.range n9).map (fv ad z X k9 i9 c9)) (by rw [cel_o hsh]; rfl)
  rw [hcl] at hrec
  have hT := C.2.2.2.2.1
  obtain ⟨u1, u2, u3, u4, u5⟩ := hU s args hT
  have cw : va_CU (rmm d mc ms) s args (RN (cid y)) (RN 12) (RN 16) a (nmy x) (nmy y') (byt y') (mxl y') (rtt y') (wsy y') (rmm d' mc' ms') mc' ms' (npl.getD y' 0) :=
    ⟨⟨rfl, rfl, by show d' + 1 ≤ d; omega, by show 8 + (mxl y' + 11) + 40 * d' ≤ 40 * d; omega, pay_in hT (gd_in (wsy_in hy3)), List.mem_cons_self⟩, hT _ (hdw_in hy3), hT _ (ini_in hyN), (by decide), fun sig h => (by
      have h2 := npr_ok y' hyN
      rw [← hde, h] at h2
      exact (Option.some.inj h2).symm), u1, u2, u3, u4, u5⟩
  refine run_ok C U hl ol oS hw hz (vx_runU (C := RN 12) (owner := RN 16) (x := nmy x) (Ts := TT) (b := ad k9 i9) (As := As.map (cv G ad)) (rest := st.map (cv G ad)) ⟨C.1, C.2.1, C.2.2.1, C.2.2.2.1, C.2.2.2.2.1⟩ (hC.2 l G ad H.size C.2.2.2.2.2.2.2.1) cw ⟨kt_blind, hrec, fun W9 hU hW => U.pre C hz oA W9 hU hW⟩ rfl (by rw [List.length_map]; exact hlen) hl.1 (by rw [rapp_eq, List.map_append, List.reverse_cons, List.map_append, List.map_reverse]; simp [cv]) (by show 2 * 0 + _ ≤ 8; omega) h1 ⟨by show cells + mc' ≤ mc; omega, by show slots + ms' ≤ ms; omega⟩) kk kx
theorem v_callSU (K : ∀ p, chk y p = true) {v : Int32} {a c np y' d' mc' ms' k9 i9 c9 n9 : Nat} {wp' : Nat → Nat → Prop} {As stk : List Av} {z1 : Zz} {QR' : Option Av → Zz → Mm → Prop} {QX' : Nat → Zz → Mm → Prop} (ht : tb y pc = (97, v, a, y', c, np)) (hU : ∀ w ∈ va_wsSU (RN (cid y)) a (nmy y') [], w ∈ TT) (hde : (nmy y').name ≠ "<init>") (hy0 : Nat.ble y' 299 = true) (hC : Ct y' d' mc' ms' wp' z1 X (aR k9 i9 :: As) QR' QX') (hsh : shp k9 = (0, c9, n9)) (hcl : (vck c9).1 = RN 12) (hc9 : Nat.ble (c9 + 1) vcl.length = true) (hs : stk = rapp (aR k9 i9 :: As) st) (hz : z1.1 = z.1 ∧ z1.2.1 = z.2.1 ∧ z1.2.2.1 = z.2.2.1) (hw : ∀ k i, wp' k i → wp k i) (hlen : As.length = npl.getD y' 0) (hd : Nat.ble (d' + 1) d = true) (hm : (Nat.ble (z.2.2.2.1 + mc') mc && Nat.ble (z.2.2.2.2 + ms') ms) = true) (hst : Nat.ble st.length 4 = true)
    (kk : ∀ (w : Option Av) (z2 : Zz) (X2 : Mm), QR' w z2 X2 → Ag wp' X X2 → V y xt d mc ms wp z0 X0 QR QX (z2.1, z2.2.1, z.2.2.1, z.2.2.2.1 + mc', z.2.2.2.2 + ms') np ls (w.toList ++ st) X2)
    (kx : ∀ (x : Nat) (z2 : Zz) (X2 : Mm), QX' x z2 X2 → Ag wp' X X2 → VX y xt d mc ms wp z0 X0 QR QX (z2.1, z2.2.1, z.2.2.1, z.2.2.2.1 + mc', z.2.2.2.2 + ms') pc ls x X2) : V y xt d mc ms wp z0 X0 QR QX z pc ls stk X := by
  intro l G ad0 p e s m args below meth c0 C ad H locs cells slots la U hl ol os
  obtain ⟨h1, h2, h3⟩ := chk_sp K ht rfl
  have h3 : np = pc + 3 := h3.elim (fun q => by cases q) id
  subst h3
  obtain ⟨hm1, hm2⟩ := Bool.and_eq_true_iff.mp hm
  have hm1 := Nat.le_of_ble_eq_true hm1
  have hm2 := Nat.le_of_ble_eq_true hm2
  have hd := Nat.le_of_ble_eq_true hd
  have hst := Nat.le_of_ble_eq_true hst
  have hsum := cat_sum G ad st
  have hc1 := U.2.2.2.2.2.2.1
  have hc2 := U.2.2.2.2.2.2.2.1
  have hy3 : y' < 300 := Nat.lt_succ_of_le (Nat.le_of_ble_eq_true hy0)
  have hyN : y' < NM := Nat.lt_of_lt_of_le hy3 (by decide)
  have hmx := mx_ok y' hyN
  subst hs
  obtain ⟨oA, oS⟩ := oks_rapp os
  have hrec := va_recv C.2.2.2.2.2.2.2.2.2.2.1.1 (sub1 U.1 (n68 hsh rfl) (oks_h oA)) (vcl_at (Nat.le_of_ble_eq_true hc9)) (q0 := 0) (fs := (List.range n9).map (fv ad z X k9 i9 c9)) (by rw [cel_o hsh]; rfl)
  rw [hcl] at hrec
  have hT := C.2.2.2.2.1
  have hK9 := (C.2.2.2.2.2.2.2.2.2.2.1.1).1 c9 _ (vcl_at (Nat.le_of_ble_eq_true hc9))
  obtain ⟨-, hfc, kC, hkC, hkind⟩ := hK9
  have hat : ClassAt s (RN 12) (G.1.1 c9) := ⟨by rw [← hcl]; exact hfc, kC, hkC, hkind⟩
  have cw : va_CS (rmm d mc ms) s args (RN (cid y)) a (nmy y') (byt y') (mxl y') (rtt y') (wsy y') (rmm d' mc' ms') mc' ms' (npl.getD y' 0) :=
    ⟨⟨rfl, rfl, by show d' + 1 ≤ d; omega, by show 8 + (mxl y' + 11) + 40 * d' ≤ 40 * d; omega, pay_in hT (gd_in (wsy_in hy3)), List.mem_cons_self⟩, hT _ (hU _ (by simp [va_wsSU])), hT _ (hU _ (by simp [va_wsSU])), hT _ (hU _ (by simp [va_wsSU])), hT _ (hU _ (by simp [va_wsSU])), hT _ (ini_in hyN), hT _ (hdw_in hy3), hde, fun sig h => (by
      have h2 := npr_ok y' hyN
      rw [h] at h2
      exact (Option.some.inj h2).symm)⟩
  refine run_ok C U hl ol oS hw hz (vx_runSU (C := RN 12) hat (Ts := TT) (b := ad k9 i9) (As := As.map (cv G ad)) (rest := st.map (cv G ad)) ⟨C.1, C.2.1, C.2.2.1, C.2.2.2.1, C.2.2.2.2.1⟩ (hC.2 l G ad H.size C.2.2.2.2.2.2.2.1) cw ⟨kt_blind, hrec, fun W9 hU hW => U.pre C hz oA W9 hU hW⟩ rfl (by rw [List.length_map]; exact hlen) hl.1 (by rw [rapp_eq, List.map_append, List.reverse_cons, List.map_append, List.map_reverse]; simp [cv]) (by show 2 * 0 + _ ≤ 8; omega) h1 ⟨by show cells + mc' ≤ mc; omega, by show slots + ms' ≤ ms; omega⟩) kk kx
end CU
section LU
variable {L y d B n pc : Nat} {ls : Lo} {st : List Av} {Y : Sm} {P : Option Av → Sm → Prop} {E : Nat → Sm → Prop}
theorem m_cU1 {b' : Nat} (K : ∀ p, chk y p = true) {v9 : Int32} {a c np x y' d' i9 : Nat} {As stk : List Av} {v : Av} {Y' : Sm} {E' : Nat → Sm → Prop} (hC : ML L d' b' y' (aR 49 i9 :: As) Y (Rt (some v) Y') E') (hE : ∀ x Z, ¬ E' x Z) (hU : jU (cid y) a x y') (hde : (nmy x).desc = (nmy y').desc) (ht : tb y pc = (96, v9, a, y', c, np)) (hs : stk = rapp (aR 49 i9 :: As) st) (kk : WL L y d B n np ls (v :: st) Y' P E)
    (hy0 : Nat.ble y' 299 = true := by rfl) (hlen : As.length = npl.getD y' 0 := by rfl) (hd : Nat.ble (d' + 1) d = true := by rfl) (hst : Nat.ble st.length 4 = true := by rfl) : WL L y d B (n + b') pc ls stk Y P E := by
  intro z0 X0 u hu
  refine v_callU K ht hU hde hy0 hC rfl rfl (by rfl) hs ⟨rfl, rfl, rfl⟩ (fun _ _ h => h) hlen hd ?_ hst (fun w z2 X2 h _ => ?_) (fun x z2 X2 h _ => ?_)
  · show (Nat.ble (u + b') B && Nat.ble (6 * u + 6 * b') (6 * B)) = true
    rw [Nat.ble_eq_true_of_le (by omega : u + b' ≤ B), Nat.ble_eq_true_of_le (by omega : 6 * u + 6 * b' ≤ 6 * B)]
    rfl
  · obtain ⟨g, h1, h2, rfl, rfl⟩ := h
    rw [h1, h2]
    have k9 := kk z0 X0 (u + b') (by omega)
    rw [Nat.mul_add] at k9
    exact k9
  · obtain ⟨g, h1, h2, h3⟩ := h
    exact (hE _ _ h3).elim
theorem m_cU0 {b' : Nat} (K : ∀ p, chk y p = true) {v9 : Int32} {a c np x y' d' i9 : Nat} {As stk : List Av} {Y' : Sm} {E' : Nat → Sm → Prop} (hC : ML L d' b' y' (aR 49 i9 :: As) Y (Rt none Y') E') (hE : ∀ x Z, ¬ E' x Z) (hU : jU (cid y) a x y') (hde : (nmy x).desc = (nmy y').desc) (ht : tb y pc = (96, v9, a, y', c, np)) (hs : stk = rapp (aR 49 i9 :: As) st) (kk : WL L y d B n np ls st Y' P E)
    (hy0 : Nat.ble y' 299 = true := by rfl) (hlen : As.length = npl.getD y' 0 := by rfl) (hd : Nat.ble (d' + 1) d = true := by rfl) (hst : Nat.ble st.length 4 = true := by rfl) : WL L y d B (n + b') pc ls stk Y P E := by
  intro z0 X0 u hu
  refine v_callU K ht hU hde hy0 hC rfl rfl (by rfl) hs ⟨rfl, rfl, rfl⟩ (fun _ _ h => h) hlen hd ?_ hst (fun w z2 X2 h _ => ?_) (fun x z2 X2 h _ => ?_)
  · show (Nat.ble (u + b') B && Nat.ble (6 * u + 6 * b') (6 * B)) = true
    rw [Nat.ble_eq_true_of_le (by omega : u + b' ≤ B), Nat.ble_eq_true_of_le (by omega : 6 * u + 6 * b' ≤ 6 * B)]
    rfl
  · obtain ⟨g, h1, h2, rfl, rfl⟩ := h
    rw [h1, h2]
    have k9 := kk z0 X0 (u + b') (by omega)
    rw [Nat.mul_add] at k9
    exact k9
  · obtain ⟨g, h1, h2, h3⟩ := h
    exact (hE _ _ h3).elim
theorem m_cP1 {b' : Nat} (K : ∀ p, chk y p = true) {v9 : Int32} {a c np y' d' i9 : Nat} {As stk : List Av} {v : Av} {Y' : Sm} {E' : Nat → Sm → Prop} (hC : ML L d' b' y' (aR 49 i9 :: As) Y (Rt (some v) Y') E') (hE : ∀ x Z, ¬ E' x Z) (hU : ∀ w ∈ va_wsSU (RN (cid y)) a (nmy y') [], w ∈ TT) (hde : (nmy y').name ≠ "<init>") (ht : tb y pc = (97, v9, a, y', c, np)) (hs : stk = rapp (aR 49 i9 :: As) st) (kk : WL L y d B n np ls (v :: st) Y' P E)
    (hy0 : Nat.ble y' 299 = true := by rfl) (hlen : As.length = npl.getD y' 0 := by rfl) (hd : Nat.ble (d' + 1) d = true := by rfl) (hst : Nat.ble st.length 4 = true := by rfl) : WL L y d B (n + b') pc ls stk Y P E := by
  intro z0 X0 u hu
  refine v_callSU K ht hU hde hy0 hC rfl rfl (by rfl) hs ⟨rfl, rfl, rfl⟩ (fun _ _ h => h) hlen hd ?_ hst (fun w z2 X2 h _ => ?_) (fun x z2 X2 h _ => ?_)
  · show (Nat.ble (u + b') B && Nat.ble (6 * u + 6 * b') (6 * B)) = true
    rw [Nat.ble_eq_true_of_le (by omega : u + b' ≤ B), Nat.ble_eq_true_of_le (by omega : 6 * u + 6 * b' ≤ 6 * B)]
    rfl
  · obtain ⟨g, h1, h2, rfl, rfl⟩ := h
    rw [h1, h2]
    have k9 := kk z0 X0 (u + b') (by omega)
    rw [Nat.mul_add] at k9
    exact k9
  · obtain ⟨g, h1, h2, h3⟩ := h
    exact (hE _ _ h3).elim
end LU
