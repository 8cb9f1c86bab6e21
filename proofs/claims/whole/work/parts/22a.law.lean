/-! the law's loop: its functions, and that its code does what they say (printed by wip/whole/gen22.py) -/
section VW
variable {y : Nat} {xt : List ExceptionTableEntry} {d mc ms : Nat} {wp : Nat → Nat → Prop} {z0 : Zz} {X0 : Mm} {QR : Option Av → Zz → Mm → Prop} {QX : Nat → Zz → Mm → Prop} {z : Zz} {pc : Nat} {ls : Lo} {st : List Av} {X : Mm}
theorem v_callW (K : ∀ p, chk y p = true) {v : Int32} {a c np y' d' mc' ms' : Nat} {wp' : Nat → Nat → Prop} {As stk : List Av} {z1 : Zz} {QR' : Option Av → Zz → Mm → Prop} {QX' : Nat → Zz → Mm → Prop} (ht : tb y pc = (80, v, a, y', c, np)) (hC : Cw y' d' mc' ms' wp' z1 X As QR' QX') (hy3 : Nat.ble 300 y' = true) (hy4 : Nat.ble y' 333 = true) (hs : stk = rapp As st) (hz : z1.1 = z.1 ∧ z1.2.1 = z.2.1 ∧ z1.2.2.1 = z.2.2.1) (hw : ∀ k i, wp' k i → wp k i) (hlen : As.length = npl.getD y' 0) (hd : Nat.ble (d' + 1) d = true) (hm : (Nat.ble (z.2.2.2.1 + mc') mc && Nat.ble (z.2.2.2.2 + ms') ms) = true) (hst : Nat.ble st.length 4 = true)
    (kk : ∀ (w : Option Av) (z2 : Zz) (X2 : Mm), QR' w z2 X2 → Ag wp' X X2 → V y xt d mc ms wp z0 X0 QR QX (z2.1, z2.2.1, z.2.2.1, z.2.2.2.1 + mc', z.2.2.2.2 + ms') np ls (w.toList ++ st) X2)
    (kx : ∀ (x : Nat) (z2 : Zz) (X2 : Mm), QX' x z2 X2 → Ag wp' X X2 → VX y xt d mc ms wp z0 X0 QR QX (z2.1, z2.2.1, z.2.2.1, z.2.2.2.1 + mc', z.2.2.2.2 + ms') pc ls x X2) : V y xt d mc ms wp z0 X0 QR QX z pc ls stk X := by
  intro l G ad0 p e s m args below meth c0 C ad H locs cells slots la U hl ol os
  obtain ⟨h1, h2, h3⟩ := chk_sp K ht rfl
  have h3 : np = pc + 3 := h3.elim (fun q => by cases q) id
  subst h3
  obtain ⟨hm1, hm2⟩ := Bool.and_eq_true_iff.mp hm
  have hm1 := Nat.le_of_ble_eq_true hm1
  have hm2 := Nat.le_of_ble_eq_true hm2
  have hd := Nat.le_of_ble_eq_true hd
  have hst := Nat.le_of_ble_eq_true hst
  have hsum := cat_sum G ad st
  have hc1 := U.2.2.2.2.2.2.1
  have hc2 := U.2.2.2.2.2.2.2.1
  have hml := ml_ok _ (of_decide_eq_true h2)
  have hyN : y' < NM := hml.1
  have hy5 : y' ∈ CWd := cw_in y' (Nat.le_of_ble_eq_true hy3) (Nat.lt_succ_of_le (Nat.le_of_ble_eq_true hy4))
  have hmx := mx_ok y' hyN
  subst hs
  obtain ⟨oA, oS⟩ := oks_rapp os
  have hws : ∀ w ∈ va_wsS (RN (cid y)) a (nmy y') (wsx y'), w ∈ TT := fun w hw => by
    rcases List.mem_append.mp hw with h | h
    · simp only [List.mem_cons, List.not_mem_nil, or_false] at h
      rcases h with rfl | rfl | rfl
      · exact MLd_in _ (of_decide_eq_true h2)
      · exact STd_in _ (hml.2.1 rfl)
      · exact ini_in hyN
    · rcases List.mem_cons.mp h with h | h
      · rw [h]; exact CWd_in _ hy5
      · exact h
  refine run_ok C U hl ol oS hw hz (vx_runSX (hh := hhy y') (Ts := TT) (As := As.map (cv G ad)) (rest := st.map (cv G ad)) ⟨C.1, C.2.1, C.2.2.1, C.2.2.2.1, C.2.2.2.2.1⟩ (hC.2 l G ad H.size C.2.2.2.2.2.2.2.1) (vx_cwSW (bytes := byt y') (maxL := mxl y') (ret := rtt y') (ws' := TT) (npl.getD y' 0) C.2.2.2.2.1 (gd_in hws) rfl rfl rfl ⟨(cls_ok y' hyN).2.2.2.1, (cls_ok y' hyN).2.2.2.2, npr_ok y' hyN⟩ ⟨by show d' + 1 ≤ d; omega, by show 8 + (mxl y' + 11) + 40 * d' ≤ 40 * d; omega⟩) ⟨kt_blind, fun W9 hU hW => U.pre C hz oA W9 hU hW⟩ rfl (by rw [List.length_map]; exact hlen) hl.1 (by rw [rapp_eq, List.map_append, List.map_reverse]) (by show 2 * 0 + _ ≤ 8; omega) h1 ⟨by show cells + mc' ≤ mc; omega, by show slots + ms' ≤ ms; omega⟩) kk kx
end VW
/-- the law's walk, with room for n cells more -/
def Wl (L d B n pc : Nat) (ls : Lo) (st : List Av) (Y : Sm) (P : Option Av → Sm → Prop) (E : Nat → Sm → Prop) : Prop := ∀ z0 X0 u, u + n ≤ B → V 334 [] d B (6 * B) allw z0 X0 (qn P) (qn E) (zU Y.2 L u (6 * u)) pc ls st Y.1
theorem rokl {d B u n : Nat} {g : Nat → Nat} {L : Nat} (hd : Nat.ble 4 d = true) (h : u + n ≤ B) : rok d B (6 * B) (zU g L u (6 * u)) = true := by
  show (Nat.ble 4 d && (Nat.ble u B && Nat.ble (6 * u) (6 * B))) = true
  rw [hd, Nat.ble_eq_true_of_le (by omega : u ≤ B), Nat.ble_eq_true_of_le (by omega : 6 * u ≤ 6 * B)]
  rfl
section LM
variable {L d B n pc : Nat} {ls : Lo} {st : List Av} {Y : Sm} {P : Option Av → Sm → Prop} {E : Nat → Sm → Prop}
theorem l_mono {r : Nat} (h : Wl L d B n pc ls st Y P E) : Wl L d B (n + r) pc ls st Y P E := fun z0 X0 u hu => h z0 X0 u (by omega)
theorem l_sg (K : ∀ p, chk 334 p = true) (s : Nat) {pc' : Nat} {ls' : Lo} {st' : List Av} {cs' : List Prop} (h : ∀ u, seg allw (zU Y.2 L u (6 * u)) 334 s pc ls st Y.1 [] = some (pc', ls', st', Y.1, cs')) (hc : allP cs') (k : Wl L d B n pc' ls' st' Y P E) (hd : Nat.ble 4 d = true := by rfl) : Wl L d B n pc ls st Y P E :=
  fun z0 X0 u hu => v_seg K s (h u) hc (k z0 X0 u hu) (rokl hd hu)
theorem l_ls (l2 : Lo) (h : ∀ q ∈ l2, lget q.1 ls = some q.2) (k : Wl L d B n pc l2 st Y P E) : Wl L d B n pc ls st Y P E := fun z0 X0 u hu => v_ls l2 h (k z0 X0 u hu)
theorem l_icmp_eq (K : ∀ p, chk 334 p = true) {v a b9 : Int32} {tg c np : Nat} (ht : tb 334 pc = (64, v, tg, 0, c, np)) (kt : a = b9 → Wl L d B n tg ls st Y P E) (kf : ¬ a = b9 → Wl L d B n np ls st Y P E) : Wl L d B n pc ls (aI b9 :: aI a :: st) Y P E := fun z0 X0 u hu => v_icmp_eq K ht (fun q => kt q z0 X0 u hu) (fun q => kf q z0 X0 u hu)
theorem l_icmp_gt (K : ∀ p, chk 334 p = true) {v a b9 : Int32} {tg c np : Nat} (ht : tb 334 pc = (64, v, tg, 4, c, np)) (kt : b9 < a → Wl L d B n tg ls st Y P E) (kf : ¬ b9 < a → Wl L d B n np ls st Y P E) : Wl L d B n pc ls (aI b9 :: aI a :: st) Y P E := fun z0 X0 u hu => v_icmp_gt K ht (fun q => kt q z0 X0 u hu) (fun q => kf q z0 X0 u hu)
theorem l_if_eq (K : ∀ p, chk 334 p = true) {v a : Int32} {tg c np : Nat} (ht : tb 334 pc = (65, v, tg, 0, c, np)) (kt : a = 0 → Wl L d B n tg ls st Y P E) (kf : ¬ a = 0 → Wl L d B n np ls st Y P E) : Wl L d B n pc ls (aI a :: st) Y P E := fun z0 X0 u hu => v_if_eq K ht (fun q => kt q z0 X0 u hu) (fun q => kf q z0 X0 u hu)
theorem l_if_ne (K : ∀ p, chk 334 p = true) {v a : Int32} {tg c np : Nat} (ht : tb 334 pc = (65, v, tg, 1, c, np)) (kt : ¬ a = 0 → Wl L d B n tg ls st Y P E) (kf : a = 0 → Wl L d B n np ls st Y P E) : Wl L d B n pc ls (aI a :: st) Y P E := fun z0 X0 u hu => v_if_ne K ht (fun q => kt q z0 X0 u hu) (fun q => kf q z0 X0 u hu)
theorem l_swAt (K : ∀ p, chk 334 p = true) (j : Nat) {x : Int32} {v : Int32} {a b9 c np len df lo t : Nat} {ts : List Nat} (ht : tb 334 pc = (66, v, a, b9, c, np)) (hs : swl.getD a (0, 0, 0, []) = (len, df, lo, ts)) (hb : Nat.ble (lo + ts.length) 1000 = true) (hj : ts[j]? = some t) (hx : x = nI (lo + j)) (k : Wl L d B n t ls st Y P E) : Wl L d B n pc ls (aI x :: st) Y P E := by
  rw [hx]
  exact fun z0 X0 u hu => v_swIn K ht hs (Nat.lt_of_le_of_lt (Nat.le_of_ble_eq_true hb) (by decide)) hj (k z0 X0 u hu)
theorem l_swOut (K : ∀ p, chk 334 p = true) {v x : Int32} {a b9 c np len df lo : Nat} {ts : List Nat} (ht : tb 334 pc = (66, v, a, b9, c, np)) (hs : swl.getD a (0, 0, 0, []) = (len, df, lo, ts)) (hb : (Nat.ble (lo + ts.length) 999 && Nat.ble 1 ts.length) = true) (hx : ∀ j, j < ts.length → ¬ x = nI (lo + j)) (k : Wl L d B n df ls st Y P E) : Wl L d B n pc ls (aI x :: st) Y P E := by
  obtain ⟨b1, b2⟩ := Bool.and_eq_true_iff.mp hb
  have b1 := Nat.le_of_ble_eq_true b1
  have b2 := Nat.le_of_ble_eq_true b2
  refine fun z0 X0 u hu => v_swOut K ht hs ?_ (k z0 X0 u hu)
  rcases sw_out (x := x) (lo := lo) ts.length (by omega) hx with q | q
  · exact Or.inl q
  · right
    omega
theorem l_cV1 {b' : Nat} (K : ∀ p, chk 334 p = true) {v9 : Int32} {a c np y' d' k9 i9 c9 n9 : Nat} {As stk : List Av} {v : Av} {Y' : Sm} (hC : Mt d' b' y' (aR k9 i9 :: As) Y (Rt (some v) Y') nX) (ht : tb 334 pc = (81, v9, a, y', c, np)) (hs : stk = rapp (aR k9 i9 :: As) st) (kk : Wl L d B n np ls (v :: st) Y' P E)
    (hsh : shp k9 = (0, c9, n9) := by rfl) (hcl : (vck c9).1 = RN (cid y') := by rfl) (hc9 : Nat.ble (c9 + 1) vcl.length = true := by rfl) (hlen : As.length = npl.getD y' 0 := by rfl) (hd : Nat.ble (d' + 1) d = true := by rfl) (hst : Nat.ble st.length 4 = true := by rfl) : Wl L d B (n + b') pc ls stk Y P E := by
  intro z0 X0 u hu
  refine v_callV K ht (hC L) hsh hcl hc9 hs ⟨rfl, rfl, rfl⟩ (fun _ _ h => h) hlen hd ?_ hst (fun w z2 X2 h _ => ?_) (fun x z2 X2 h _ => ?_)
  · show (Nat.ble (u + b') B && Nat.ble (6 * u + 6 * b') (6 * B)) = true
    rw [Nat.ble_eq_true_of_le (by omega : u + b' ≤ B), Nat.ble_eq_true_of_le (by omega : 6 * u + 6 * b' ≤ 6 * B)]
    rfl
  · obtain ⟨g, h1, h2, rfl, rfl⟩ := h
    rw [h1, h2]
    have k9 := kk z0 X0 (u + b') (by omega)
    rw [Nat.mul_add] at k9
    exact k9
  · obtain ⟨g, h1, h2, h3⟩ := h
    exact h3.elim
theorem l_cS1 {b' : Nat} (K : ∀ p, chk 334 p = true) {v9 : Int32} {a c np y' d' : Nat} {As stk : List Av} {v : Av} {Y' : Sm} (hC : Mw d' b' y' As Y (Rt (some v) Y') nX) (ht : tb 334 pc = (80, v9, a, y', c, np)) (hs : stk = rapp As st) (kk : Wl L d B n np ls (v :: st) Y' P E)
    (hy3 : Nat.ble 300 y' = true := by rfl) (hy4 : Nat.ble y' 333 = true := by rfl) (hlen : As.length = npl.getD y' 0 := by rfl) (hd : Nat.ble (d' + 1) d = true := by rfl) (hst : Nat.ble st.length 4 = true := by rfl) : Wl L d B (n + b') pc ls stk Y P E := by
  intro z0 X0 u hu
  refine v_callW K ht (hC L) hy3 hy4 hs ⟨rfl, rfl, rfl⟩ (fun _ _ h => h) hlen hd ?_ hst (fun w z2 X2 h _ => ?_) (fun x z2 X2 h _ => ?_)
  · show (Nat.ble (u + b') B && Nat.ble (6 * u + 6 * b') (6 * B)) = true
    rw [Nat.ble_eq_true_of_le (by omega : u + b' ≤ B), Nat.ble_eq_true_of_le (by omega : 6 * u + 6 * b' ≤ 6 * B)]
    rfl
  · obtain ⟨g, h1, h2, rfl, rfl⟩ := h
    rw [h1, h2]
    have k9 := kk z0 X0 (u + b') (by omega)
    rw [Nat.mul_add] at k9
    exact k9
  · obtain ⟨g, h1, h2, h3⟩ := h
    exact h3.elim
theorem l_zreturn (K : ∀ p, chk 334 p = true) {v : Int32} {a b9 c np : Nat} {x : Int32} (hx : x = 0 ∨ x = 1) (hq : P (some (aI x)) Y) (ht : tb 334 pc = (70, v, a, b9, c, np) := by rfl) (hrt : rtt 334 = some .boolean := by rfl) (hd : Nat.ble 4 d = true := by rfl) : Wl L d B n pc ls [aI x] Y P E := fun z0 X0 u hu => v_zreturn K ht hrt hx ⟨Y.2, rfl, rfl, hq⟩ (rokl hd hu)
end LM
def fn_334_J260 (L : Nat) (l5 : Int32) (Y : Sm) : Option ((Int32 × Sm) ⊕ (Int32 × Sm)) :=
  ck (inb (l5 + (nI 1)) L) <| ck (inb (l5 + (nI 2)) L) <| ck (inb (l5 + (nI 3)) L) <| ck (inb (l5 + (nI 4)) L) <| ck (inb (l5 + (nI 5)) L) <| bd (fn_104 (gI Y.1 68 0 (ix (l5 + (nI 1)))) (gI Y.1 68 0 (ix (l5 + (nI 2)))) (gI Y.1 68 0 (ix (l5 + (nI 3)))) (gI Y.1 68 0 (ix (l5 + (nI 4)))) (gI Y.1 68 0 (ix (l5 + (nI 5)))) Y) fun v8 Y6 => bd (fn_270 (gI Y6.1 68 0 (ix (l5 + (nI 1)))) (gI Y6.1 68 0 (ix (l5 + (nI 2)))) (gI Y6.1 68 0 (ix (l5 + (nI 3)))) (gI Y6.1 68 0 (ix (l5 + (nI 4)))) (gI Y6.1 68 0 (ix (l5 + (nI 5)))) Y6) fun v11 Y9 => (if v8 = v11 then some (.inl ((l5 + (nI 6)), Y9)) else some (.inr ((nI 0), Y9)))
set_option maxRecDepth 20000 in
set_option maxHeartbeats 4000000 in
theorem sn_334_J260 {L B m : Nat} {l5 : Int32} {Y : Sm} {q : (Int32 × Sm) ⊕ (Int32 × Sm)} {P : Option Av → Sm → Prop} {E : Nat → Sm → Prop} (hi : ∀ i Z, q = .inl (i, Z) → Wl L 16 B m 28 [(0, aR 68 0), (1, aR 0 0), (2, aR 48 0), (3, aR 66 0), (4, aR 67 0), (5, aI i)] [] Z P E) (hr : ∀ o : Int32 × Sm, q = .inr o → P (some (aI o.1)) o.2) (h : fn_334_J260 L l5 Y = some q) : Wl L 16 B (m + 8) 260 [(0, aR 68 0), (1, aR 0 0), (2, aR 48 0), (3, aR 66 0), (4, aR 67 0), (5, aI l5)] [] Y P E := by
  unfold fn_334_J260 at h
  obtain ⟨hc1, h⟩ := ck_some h
  refine l_sg k334 8 (pc' := 270) (ls' := [(0, aR 68 0), (1, aR 0 0), (2, aR 48 0), (3, aR 66 0), (4, aR 67 0), (5, aI l5)]) (st' := [aI l5, aR 68 0, aI (gI Y.1 68 0 (ix (l5 + (nI 1)))), aR 0 0]) (cs' := [vp_in (l5 + (nI 1)) L]) (fun _ => rfl) (al1 (vin hc1)) ?_
  obtain ⟨hc2, h⟩ := ck_some h
  obtain ⟨hc3, h⟩ := ck_some h
  refine l_sg k334 8 (pc' := 279) (ls' := [(0, aR 68 0), (1, aR 0 0), (2, aR 48 0), (3, aR 66 0), (4, aR 67 0), (5, aI l5)]) (st' := [aI (gI Y.1 68 0 (ix (l5 + (nI 3)))), aI (gI Y.1 68 0 (ix (l5 + (nI 2)))), aI (gI Y.1 68 0 (ix (l5 + (nI 1)))), aR 0 0]) (cs' := [vp_in (l5 + (nI 2)) L, vp_in (l5 + (nI 3)) L]) (fun _ => rfl) (al2 (vin hc2) (al1 (vin hc3))) ?_
  obtain ⟨hc4, h⟩ := ck_some h
  refine l_sg k334 8 (pc' := 289) (ls' := [(0, aR 68 0), (1, aR 0 0), (2, aR 48 0), (3, aR 66 0), (4, aR 67 0), (5, aI l5)]) (st' := [aI (nI 5), aI l5, aR 68 0, aI (gI Y.1 68 0 (ix (l5 + (nI 4)))), aI (gI Y.1 68 0 (ix (l5 + (nI 3)))), aI (gI Y.1 68 0 (ix (l5 + (nI 2)))), aI (gI Y.1 68 0 (ix (l5 + (nI 1)))), aR 0 0]) (cs' := [vp_in (l5 + (nI 4)) L]) (fun _ => rfl) (al1 (vin hc4)) ?_
  obtain ⟨hc5, h⟩ := ck_some h
  refine l_sg k334 2 (pc' := 291) (ls' := [(0, aR 68 0), (1, aR 0 0), (2, aR 48 0), (3, aR 66 0), (4, aR 67 0), (5, aI l5)]) (st' := [aI (gI Y.1 68 0 (ix (l5 + (nI 5)))), aI (gI Y.1 68 0 (ix (l5 + (nI 4)))), aI (gI Y.1 68 0 (ix (l5 + (nI 3)))), aI (gI Y.1 68 0 (ix (l5 + (nI 2)))), aI (gI Y.1 68 0 (ix (l5 + (nI 1)))), aR 0 0]) (cs' := [vp_in (l5 + (nI 5)) L]) (fun _ => rfl) (al1 (vin hc5)) ?_
  obtain ⟨v8, Y6, hv7, h⟩ := bd_some h
  refine l_cV1 (n := m + 8) (b' := 0) k334 (sn_104 _ _ _ _ _ _ _ hv7) rfl (st := []) rfl ?_
  refine l_sg k334 8 (pc' := 304) (ls' := [(0, aR 68 0), (1, aR 0 0), (2, aR 48 0), (3, aR 66 0), (4, aR 67 0), (5, aI l5)]) (st' := [aI l5, aR 68 0, aI (gI Y6.1 68 0 (ix (l5 + (nI 1)))), aR 48 0, aI v8]) (cs' := [vp_in (l5 + (nI 1)) L]) (fun _ => rfl) (al1 (vin hc1)) ?_
  refine l_sg k334 8 (pc' := 313) (ls' := [(0, aR 68 0), (1, aR 0 0), (2, aR 48 0), (3, aR 66 0), (4, aR 67 0), (5, aI l5)]) (st' := [aI (gI Y6.1 68 0 (ix (l5 + (nI 3)))), aI (gI Y6.1 68 0 (ix (l5 + (nI 2)))), aI (gI Y6.1 68 0 (ix (l5 + (nI 1)))), aR 48 0, aI v8]) (cs' := [vp_in (l5 + (nI 2)) L, vp_in (l5 + (nI 3)) L]) (fun _ => rfl) (al2 (vin hc2) (al1 (vin hc3))) ?_
  refine l_sg k334 8 (pc' := 323) (ls' := [(0, aR 68 0), (1, aR 0 0), (2, aR 48 0), (3, aR 66 0), (4, aR 67 0), (5, aI l5)]) (st' := [aI (nI 5), aI l5, aR 68 0, aI (gI Y6.1 68 0 (ix (l5 + (nI 4)))), aI (gI Y6.1 68 0 (ix (l5 + (nI 3)))), aI (gI Y6.1 68 0 (ix (l5 + (nI 2)))), aI (gI Y6.1 68 0 (ix (l5 + (nI 1)))), aR 48 0, aI v8]) (cs' := [vp_in (l5 + (nI 4)) L]) (fun _ => rfl) (al1 (vin hc4)) ?_
  refine l_sg k334 2 (pc' := 325) (ls' := [(0, aR 68 0), (1, aR 0 0), (2, aR 48 0), (3, aR 66 0), (4, aR 67 0), (5, aI l5)]) (st' := [aI (gI Y6.1 68 0 (ix (l5 + (nI 5)))), aI (gI Y6.1 68 0 (ix (l5 + (nI 4)))), aI (gI Y6.1 68 0 (ix (l5 + (nI 3)))), aI (gI Y6.1 68 0 (ix (l5 + (nI 2)))), aI (gI Y6.1 68 0 (ix (l5 + (nI 1)))), aR 48 0, aI v8]) (cs' := [vp_in (l5 + (nI 5)) L]) (fun _ => rfl) (al1 (vin hc5)) ?_
  obtain ⟨v11, Y9, hv10, h⟩ := bd_some h
  refine l_cV1 (n := m + 8) (b' := 0) k334 (sn_270 _ _ _ _ _ _ _ hv10) rfl (st := [aI v8]) rfl ?_
  refine l_icmp_eq k334 rfl (fun c => ?_) (fun c => ?_)
  · replace h := if_t c h
    refine l_sg k334 1 (pc' := 2736) (ls' := [(0, aR 68 0), (1, aR 0 0), (2, aR 48 0), (3, aR 66 0), (4, aR 67 0), (5, aI (l5 + (nI 6)))]) (st' := []) (cs' := []) (fun _ => rfl) al0 ?_
    refine l_sg k334 1 (pc' := 28) (ls' := [(0, aR 68 0), (1, aR 0 0), (2, aR 48 0), (3, aR 66 0), (4, aR 67 0), (5, aI (l5 + (nI 6)))]) (st' := []) (cs' := []) (fun _ => rfl) al0 ?_
    refine l_ls [(0, aR 68 0), (1, aR 0 0), (2, aR 48 0), (3, aR 66 0), (4, aR 67 0), (5, aI (l5 + (nI 6)))] (lq_c rfl (lq_c rfl (lq_c rfl (lq_c rfl (lq_c rfl (lq_c rfl lq_n)))))) ?_
    obtain rfl := Option.some.inj h
    exact l_mono (hi _ _ rfl)
  · replace h := if_f c h
    refine l_sg k334 1 (pc' := 332) (ls' := [(0, aR 68 0), (1, aR 0 0), (2, aR 48 0), (3, aR 66 0), (4, aR 67 0), (5, aI l5)]) (st' := [aI (nI 0)]) (cs' := []) (fun _ => rfl) al0 ?_
    obtain rfl := Option.some.inj h
    exact l_zreturn k334 (Or.inl rfl) (hr _ rfl)
def fn_334_J333 (L : Nat) (l5 : Int32) (Y : Sm) : Option ((Int32 × Sm) ⊕ (Int32 × Sm)) :=
  ck (inb (l5 + (nI 1)) L) <| bd (fn_105 (gI Y.1 68 0 (ix (l5 + (nI 1)))) Y) fun v4 Y2 => bd (fn_271 (gI Y2.1 68 0 (ix (l5 + (nI 1)))) Y2) fun v7 Y5 => (if v4 = v7 then some (.inl ((l5 + (nI 6)), Y5)) else some (.inr ((nI 0), Y5)))
set_option maxRecDepth 20000 in
set_option maxHeartbeats 4000000 in
theorem sn_334_J333 {L B m : Nat} {l5 : Int32} {Y : Sm} {q : (Int32 × Sm) ⊕ (Int32 × Sm)} {P : Option Av → Sm → Prop} {E : Nat → Sm → Prop} (hi : ∀ i Z, q = .inl (i, Z) → Wl L 16 B m 28 [(0, aR 68 0), (1, aR 0 0), (2, aR 48 0), (3, aR 66 0), (4, aR 67 0), (5, aI i)] [] Z P E) (hr : ∀ o : Int32 × Sm, q = .inr o → P (some (aI o.1)) o.2) (h : fn_334_J333 L l5 Y = some q) : Wl L 16 B (m + 8) 333 [(0, aR 68 0), (1, aR 0 0), (2, aR 48 0), (3, aR 66 0), (4, aR 67 0), (5, aI l5)] [] Y P E := by
  unfold fn_334_J333 at h
  obtain ⟨hc1, h⟩ := ck_some h
  refine l_sg k334 6 (pc' := 340) (ls' := [(0, aR 68 0), (1, aR 0 0), (2, aR 48 0), (3, aR 66 0), (4, aR 67 0), (5, aI l5)]) (st' := [aI (gI Y.1 68 0 (ix (l5 + (nI 1)))), aR 0 0]) (cs' := [vp_in (l5 + (nI 1)) L]) (fun _ => rfl) (al1 (vin hc1)) ?_
  obtain ⟨v4, Y2, hv3, h⟩ := bd_some h
  refine l_cV1 (n := m + 8) (b' := 0) k334 (sn_105 _ _ _ hv3) rfl (st := []) rfl ?_
  refine l_sg k334 6 (pc' := 350) (ls' := [(0, aR 68 0), (1, aR 0 0), (2, aR 48 0), (3, aR 66 0), (4, aR 67 0), (5, aI l5)]) (st' := [aI (gI Y2.1 68 0 (ix (l5 + (nI 1)))), aR 48 0, aI v4]) (cs' := [vp_in (l5 + (nI 1)) L]) (fun _ => rfl) (al1 (vin hc1)) ?_
  obtain ⟨v7, Y5, hv6, h⟩ := bd_some h
  refine l_cV1 (n := m + 8) (b' := 0) k334 (sn_271 _ _ _ hv6) rfl (st := [aI v4]) rfl ?_
  refine l_icmp_eq k334 rfl (fun c => ?_) (fun c => ?_)
  · replace h := if_t c h
    refine l_sg k334 1 (pc' := 2736) (ls' := [(0, aR 68 0), (1, aR 0 0), (2, aR 48 0), (3, aR 66 0), (4, aR 67 0), (5, aI (l5 + (nI 6)))]) (st' := []) (cs' := []) (fun _ => rfl) al0 ?_
    refine l_sg k334 1 (pc' := 28) (ls' := [(0, aR 68 0), (1, aR 0 0), (2, aR 48 0), (3, aR 66 0), (4, aR 67 0), (5, aI (l5 + (nI 6)))]) (st' := []) (cs' := []) (fun _ => rfl) al0 ?_
    refine l_ls [(0, aR 68 0), (1, aR 0 0), (2, aR 48 0), (3, aR 66 0), (4, aR 67 0), (5, aI (l5 + (nI 6)))] (lq_c rfl (lq_c rfl (lq_c rfl (lq_c rfl (lq_c rfl (lq_c rfl lq_n)))))) ?_
    obtain rfl := Option.some.inj h
    exact l_mono (hi _ _ rfl)
  · replace h := if_f c h
    refine l_sg k334 1 (pc' := 357) (ls' := [(0, aR 68 0), (1, aR 0 0), (2, aR 48 0), (3, aR 66 0), (4, aR 67 0), (5, aI l5)]) (st' := [aI (nI 0)]) (cs' := []) (fun _ => rfl) al0 ?_
    obtain rfl := Option.some.inj h
    exact l_zreturn k334 (Or.inl rfl) (hr _ rfl)
def fn_334_J358 (L : Nat) (l5 : Int32) (Y : Sm) : Option ((Int32 × Sm) ⊕ (Int32 × Sm)) :=
  bd (fn_106 Y) fun v3 Y1 => bd (fn_292 Y1) fun v6 Y4 => (if v3 = v6 then some (.inl ((l5 + (nI 6)), Y4)) else some (.inr ((nI 0), Y4)))
set_option maxRecDepth 20000 in
set_option maxHeartbeats 4000000 in
theorem sn_334_J358 {L B m : Nat} {l5 : Int32} {Y : Sm} {q : (Int32 × Sm) ⊕ (Int32 × Sm)} {P : Option Av → Sm → Prop} {E : Nat → Sm → Prop} (hi : ∀ i Z, q = .inl (i, Z) → Wl L 16 B m 28 [(0, aR 68 0), (1, aR 0 0), (2, aR 48 0), (3, aR 66 0), (4, aR 67 0), (5, aI i)] [] Z P E) (hr : ∀ o : Int32 × Sm, q = .inr o → P (some (aI o.1)) o.2) (h : fn_334_J358 L l5 Y = some q) : Wl L 16 B (m + 8) 358 [(0, aR 68 0), (1, aR 0 0), (2, aR 48 0), (3, aR 66 0), (4, aR 67 0), (5, aI l5)] [] Y P E := by
  unfold fn_334_J358 at h
  refine l_sg k334 1 (pc' := 359) (ls' := [(0, aR 68 0), (1, aR 0 0), (2, aR 48 0), (3, aR 66 0), (4, aR 67 0), (5, aI l5)]) (st' := [aR 0 0]) (cs' := []) (fun _ => rfl) al0 ?_
  obtain ⟨v3, Y1, hv2, h⟩ := bd_some h
  refine l_cV1 (n := m + 8) (b' := 0) k334 (sn_106  _ _ hv2) rfl (st := []) rfl ?_
  refine l_sg k334 1 (pc' := 363) (ls' := [(0, aR 68 0), (1, aR 0 0), (2, aR 48 0), (3, aR 66 0), (4, aR 67 0), (5, aI l5)]) (st' := [aR 48 0, aI v3]) (cs' := []) (fun _ => rfl) al0 ?_
  obtain ⟨v6, Y4, hv5, h⟩ := bd_some h
  refine l_cV1 (n := m + 8) (b' := 0) k334 (sn_292  _ _ hv5) rfl (st := [aI v3]) rfl ?_
  refine l_icmp_eq k334 rfl (fun c => ?_) (fun c => ?_)
  · replace h := if_t c h
    refine l_sg k334 1 (pc' := 2736) (ls' := [(0, aR 68 0), (1, aR 0 0), (2, aR 48 0), (3, aR 66 0), (4, aR 67 0), (5, aI (l5 + (nI 6)))]) (st' := []) (cs' := []) (fun _ => rfl) al0 ?_
    refine l_sg k334 1 (pc' := 28) (ls' := [(0, aR 68 0), (1, aR 0 0), (2, aR 48 0), (3, aR 66 0), (4, aR 67 0), (5, aI (l5 + (nI 6)))]) (st' := []) (cs' := []) (fun _ => rfl) al0 ?_
    refine l_ls [(0, aR 68 0), (1, aR 0 0), (2, aR 48 0), (3, aR 66 0), (4, aR 67 0), (5, aI (l5 + (nI 6)))] (lq_c rfl (lq_c rfl (lq_c rfl (lq_c rfl (lq_c rfl (lq_c rfl lq_n)))))) ?_
    obtain rfl := Option.some.inj h
    exact l_mono (hi _ _ rfl)
  · replace h := if_f c h
    refine l_sg k334 1 (pc' := 370) (ls' := [(0, aR 68 0), (1, aR 0 0), (2, aR 48 0), (3, aR 66 0), (4, aR 67 0), (5, aI l5)]) (st' := [aI (nI 0)]) (cs' := []) (fun _ => rfl) al0 ?_
    obtain rfl := Option.some.inj h
    exact l_zreturn k334 (Or.inl rfl) (hr _ rfl)
def fn_334_J371 (L : Nat) (l5 : Int32) (Y : Sm) : Option ((Int32 × Sm) ⊕ (Int32 × Sm)) :=
  bd (fn_107 Y) fun v3 Y1 => bd (fn_293 Y1) fun v6 Y4 => (if v3 = v6 then some (.inl ((l5 + (nI 6)), Y4)) else some (.inr ((nI 0), Y4)))
set_option maxRecDepth 20000 in
set_option maxHeartbeats 4000000 in
theorem sn_334_J371 {L B m : Nat} {l5 : Int32} {Y : Sm} {q : (Int32 × Sm) ⊕ (Int32 × Sm)} {P : Option Av → Sm → Prop} {E : Nat → Sm → Prop} (hi : ∀ i Z, q = .inl (i, Z) → Wl L 16 B m 28 [(0, aR 68 0), (1, aR 0 0), (2, aR 48 0), (3, aR 66 0), (4, aR 67 0), (5, aI i)] [] Z P E) (hr : ∀ o : Int32 × Sm, q = .inr o → P (some (aI o.1)) o.2) (h : fn_334_J371 L l5 Y = some q) : Wl L 16 B (m + 8) 371 [(0, aR 68 0), (1, aR 0 0), (2, aR 48 0), (3, aR 66 0), (4, aR 67 0), (5, aI l5)] [] Y P E := by
  unfold fn_334_J371 at h
  refine l_sg k334 1 (pc' := 372) (ls' := [(0, aR 68 0), (1, aR 0 0), (2, aR 48 0), (3, aR 66 0), (4, aR 67 0), (5, aI l5)]) (st' := [aR 0 0]) (cs' := []) (fun _ => rfl) al0 ?_
  obtain ⟨v3, Y1, hv2, h⟩ := bd_some h
  refine l_cV1 (n := m + 8) (b' := 0) k334 (sn_107  _ _ hv2) rfl (st := []) rfl ?_
  refine l_sg k334 1 (pc' := 376) (ls' := [(0, aR 68 0), (1, aR 0 0), (2, aR 48 0), (3, aR 66 0), (4, aR 67 0), (5, aI l5)]) (st' := [aR 48 0, aI v3]) (cs' := []) (fun _ => rfl) al0 ?_
  obtain ⟨v6, Y4, hv5, h⟩ := bd_some h
  refine l_cV1 (n := m + 8) (b' := 0) k334 (sn_293  _ _ hv5) rfl (st := [aI v3]) rfl ?_
  refine l_icmp_eq k334 rfl (fun c => ?_) (fun c => ?_)
  · replace h := if_t c h
    refine l_sg k334 1 (pc' := 2736) (ls' := [(0, aR 68 0), (1, aR 0 0), (2, aR 48 0), (3, aR 66 0), (4, aR 67 0), (5, aI (l5 + (nI 6)))]) (st' := []) (cs' := []) (fun _ => rfl) al0 ?_
    refine l_sg k334 1 (pc' := 28) (ls' := [(0, aR 68 0), (1, aR 0 0), (2, aR 48 0), (3, aR 66 0), (4, aR 67 0), (5, aI (l5 + (nI 6)))]) (st' := []) (cs' := []) (fun _ => rfl) al0 ?_
    refine l_ls [(0, aR 68 0), (1, aR 0 0), (2, aR 48 0), (3, aR 66 0), (4, aR 67 0), (5, aI (l5 + (nI 6)))] (lq_c rfl (lq_c rfl (lq_c rfl (lq_c rfl (lq_c rfl (lq_c rfl lq_n)))))) ?_
    obtain rfl := Option.some.inj h
    exact l_mono (hi _ _ rfl)
  · replace h := if_f c h
    refine l_sg k334 1 (pc' := 383) (ls' := [(0, aR 68 0), (1, aR 0 0), (2, aR 48 0), (3, aR 66 0), (4, aR 67 0), (5, aI l5)]) (st' := [aI (nI 0)]) (cs' := []) (fun _ => rfl) al0 ?_
    obtain rfl := Option.some.inj h
    exact l_zreturn k334 (Or.inl rfl) (hr _ rfl)
def fn_334_J384 (L : Nat) (l5 : Int32) (Y : Sm) : Option ((Int32 × Sm) ⊕ (Int32 × Sm)) :=
  bd (fn_108 Y) fun v3 Y1 => bd (fn_294 Y1) fun v6 Y4 => (if v3 = v6 then some (.inl ((l5 + (nI 6)), Y4)) else some (.inr ((nI 0), Y4)))
set_option maxRecDepth 20000 in
set_option maxHeartbeats 4000000 in
theorem sn_334_J384 {L B m : Nat} {l5 : Int32} {Y : Sm} {q : (Int32 × Sm) ⊕ (Int32 × Sm)} {P : Option Av → Sm → Prop} {E : Nat → Sm → Prop} (hi : ∀ i Z, q = .inl (i, Z) → Wl L 16 B m 28 [(0, aR 68 0), (1, aR 0 0), (2, aR 48 0), (3, aR 66 0), (4, aR 67 0), (5, aI i)] [] Z P E) (hr : ∀ o : Int32 × Sm, q = .inr o → P (some (aI o.1)) o.2) (h : fn_334_J384 L l5 Y = some q) : Wl L 16 B (m + 8) 384 [(0, aR 68 0), (1, aR 0 0), (2, aR 48 0), (3, aR 66 0), (4, aR 67 0), (5, aI l5)] [] Y P E := by
  unfold fn_334_J384 at h
  refine l_sg k334 1 (pc' := 385) (ls' := [(0, aR 68 0), (1, aR 0 0), (2, aR 48 0), (3, aR 66 0), (4, aR 67 0), (5, aI l5)]) (st' := [aR 0 0]) (cs' := []) (fun _ => rfl) al0 ?_
  obtain ⟨v3, Y1, hv2, h⟩ := bd_some h
  refine l_cV1 (n := m + 8) (b' := 0) k334 (sn_108  _ _ hv2) rfl (st := []) rfl ?_
  refine l_sg k334 1 (pc' := 389) (ls' := [(0, aR 68 0), (1, aR 0 0), (2, aR 48 0), (3, aR 66 0), (4, aR 67 0), (5, aI l5)]) (st' := [aR 48 0, aI v3]) (cs' := []) (fun _ => rfl) al0 ?_
  obtain ⟨v6, Y4, hv5, h⟩ := bd_some h
  refine l_cV1 (n := m + 8) (b' := 0) k334 (sn_294  _ _ hv5) rfl (st := [aI v3]) rfl ?_
  refine l_icmp_eq k334 rfl (fun c => ?_) (fun c => ?_)
  · replace h := if_t c h
    refine l_sg k334 1 (pc' := 2736) (ls' := [(0, aR 68 0), (1, aR 0 0), (2, aR 48 0), (3, aR 66 0), (4, aR 67 0), (5, aI (l5 + (nI 6)))]) (st' := []) (cs' := []) (fun _ => rfl) al0 ?_
    refine l_sg k334 1 (pc' := 28) (ls' := [(0, aR 68 0), (1, aR 0 0), (2, aR 48 0), (3, aR 66 0), (4, aR 67 0), (5, aI (l5 + (nI 6)))]) (st' := []) (cs' := []) (fun _ => rfl) al0 ?_
    refine l_ls [(0, aR 68 0), (1, aR 0 0), (2, aR 48 0), (3, aR 66 0), (4, aR 67 0), (5, aI (l5 + (nI 6)))] (lq_c rfl (lq_c rfl (lq_c rfl (lq_c rfl (lq_c rfl (lq_c rfl lq_n)))))) ?_
    obtain rfl := Option.some.inj h
    exact l_mono (hi _ _ rfl)
  · replace h := if_f c h
    refine l_sg k334 1 (pc' := 396) (ls' := [(0, aR 68 0), (1, aR 0 0), (2, aR 48 0), (3, aR 66 0), (4, aR 67 0), (5, aI l5)]) (st' := [aI (nI 0)]) (cs' := []) (fun _ => rfl) al0 ?_
    obtain rfl := Option.some.inj h
    exact l_zreturn k334 (Or.inl rfl) (hr _ rfl)
def fn_334_J397 (L : Nat) (l5 : Int32) (Y : Sm) : Option ((Int32 × Sm) ⊕ (Int32 × Sm)) :=
  ck (inb (l5 + (nI 1)) L) <| bd (fn_109 (gI Y.1 68 0 (ix (l5 + (nI 1)))) Y) fun v4 Y2 => bd (fn_226 (gI Y2.1 68 0 (ix (l5 + (nI 1)))) Y2) fun v7 Y5 => (if v4 = v7 then some (.inl ((l5 + (nI 6)), Y5)) else some (.inr ((nI 0), Y5)))
set_option maxRecDepth 20000 in
set_option maxHeartbeats 4000000 in
theorem sn_334_J397 {L B m : Nat} {l5 : Int32} {Y : Sm} {q : (Int32 × Sm) ⊕ (Int32 × Sm)} {P : Option Av → Sm → Prop} {E : Nat → Sm → Prop} (hi : ∀ i Z, q = .inl (i, Z) → Wl L 16 B m 28 [(0, aR 68 0), (1, aR 0 0), (2, aR 48 0), (3, aR 66 0), (4, aR 67 0), (5, aI i)] [] Z P E) (hr : ∀ o : Int32 × Sm, q = .inr o → P (some (aI o.1)) o.2) (h : fn_334_J397 L l5 Y = some q) : Wl L 16 B (m + 8) 397 [(0, aR 68 0), (1, aR 0 0), (2, aR 48 0), (3, aR 66 0), (4, aR 67 0), (5, aI l5)] [] Y P E := by
  unfold fn_334_J397 at h
  obtain ⟨hc1, h⟩ := ck_some h
  refine l_sg k334 6 (pc' := 404) (ls' := [(0, aR 68 0), (1, aR 0 0), (2, aR 48 0), (3, aR 66 0), (4, aR 67 0), (5, aI l5)]) (st' := [aI (gI Y.1 68 0 (ix (l5 + (nI 1)))), aR 0 0]) (cs' := [vp_in (l5 + (nI 1)) L]) (fun _ => rfl) (al1 (vin hc1)) ?_
  obtain ⟨v4, Y2, hv3, h⟩ := bd_some h
  refine l_cV1 (n := m + 8) (b' := 0) k334 (sn_109 _ _ _ hv3) rfl (st := []) rfl ?_
  refine l_sg k334 6 (pc' := 414) (ls' := [(0, aR 68 0), (1, aR 0 0), (2, aR 48 0), (3, aR 66 0), (4, aR 67 0), (5, aI l5)]) (st' := [aI (gI Y2.1 68 0 (ix (l5 + (nI 1)))), aR 48 0, aI v4]) (cs' := [vp_in (l5 + (nI 1)) L]) (fun _ => rfl) (al1 (vin hc1)) ?_
  obtain ⟨v7, Y5, hv6, h⟩ := bd_some h
  refine l_cV1 (n := m + 8) (b' := 0) k334 (sn_226 _ _ _ hv6) rfl (st := [aI v4]) rfl ?_
  refine l_icmp_eq k334 rfl (fun c => ?_) (fun c => ?_)
  · replace h := if_t c h
    refine l_sg k334 1 (pc' := 2736) (ls' := [(0, aR 68 0), (1, aR 0 0), (2, aR 48 0), (3, aR 66 0), (4, aR 67 0), (5, aI (l5 + (nI 6)))]) (st' := []) (cs' := []) (fun _ => rfl) al0 ?_
    refine l_sg k334 1 (pc' := 28) (ls' := [(0, aR 68 0), (1, aR 0 0), (2, aR 48 0), (3, aR 66 0), (4, aR 67 0), (5, aI (l5 + (nI 6)))]) (st' := []) (cs' := []) (fun _ => rfl) al0 ?_
    refine l_ls [(0, aR 68 0), (1, aR 0 0), (2, aR 48 0), (3, aR 66 0), (4, aR 67 0), (5, aI (l5 + (nI 6)))] (lq_c rfl (lq_c rfl (lq_c rfl (lq_c rfl (lq_c rfl (lq_c rfl lq_n)))))) ?_
    obtain rfl := Option.some.inj h
    exact l_mono (hi _ _ rfl)
  · replace h := if_f c h
    refine l_sg k334 1 (pc' := 421) (ls' := [(0, aR 68 0), (1, aR 0 0), (2, aR 48 0), (3, aR 66 0), (4, aR 67 0), (5, aI l5)]) (st' := [aI (nI 0)]) (cs' := []) (fun _ => rfl) al0 ?_
    obtain rfl := Option.some.inj h
    exact l_zreturn k334 (Or.inl rfl) (hr _ rfl)
def fn_334_J422 (L : Nat) (l5 : Int32) (Y : Sm) : Option ((Int32 × Sm) ⊕ (Int32 × Sm)) :=
  ck (inb (l5 + (nI 1)) L) <| (if (gI Y.1 68 0 (ix (l5 + (nI 1)))) = (nI 0) then bd (fn_110 (nI 0) Y) fun v4 Y2 => (if (gI Y2.1 68 0 (ix (l5 + (nI 1)))) = (nI 0) then bd (fn_295 (nI 0) Y2) fun v7 Y5 => (if v4 = v7 then some (.inl ((l5 + (nI 6)), Y5)) else some (.inr ((nI 0), Y5))) else bd (fn_295 (nI 1) Y2) fun v10 Y8 => (if v4 = v10 then some (.inl ((l5 + (nI 6)), Y8)) else some (.inr ((nI 0), Y8)))) else bd (fn_110 (nI 1) Y) fun v13 Y11 => (if (gI Y11.1 68 0 (ix (l5 + (nI 1)))) = (nI 0) then bd (fn_295 (nI 0) Y11) fun v16 Y14 => (if v13 = v16 then some (.inl ((l5 + (nI 6)), Y14)) else some (.inr ((nI 0), Y14))) else bd (fn_295 (nI 1) Y11) fun v19 Y17 => (if v13 = v19 then some (.inl ((l5 + (nI 6)), Y17)) else some (.inr ((nI 0), Y17)))))
set_option maxRecDepth 20000 in
set_option maxHeartbeats 4000000 in
theorem sn_334_J422 {L B m : Nat} {l5 : Int32} {Y : Sm} {q : (Int32 × Sm) ⊕ (Int32 × Sm)} {P : Option Av → Sm → Prop} {E : Nat → Sm → Prop} (hi : ∀ i Z, q = .inl (i, Z) → Wl L 16 B m 28 [(0, aR 68 0), (1, aR 0 0), (2, aR 48 0), (3, aR 66 0), (4, aR 67 0), (5, aI i)] [] Z P E) (hr : ∀ o : Int32 × Sm, q = .inr o → P (some (aI o.1)) o.2) (h : fn_334_J422 L l5 Y = some q) : Wl L 16 B (m + 8) 422 [(0, aR 68 0), (1, aR 0 0), (2, aR 48 0), (3, aR 66 0), (4, aR 67 0), (5, aI l5)] [] Y P E := by
  unfold fn_334_J422 at h
  obtain ⟨hc1, h⟩ := ck_some h
  refine l_sg k334 6 (pc' := 429) (ls' := [(0, aR 68 0), (1, aR 0 0), (2, aR 48 0), (3, aR 66 0), (4, aR 67 0), (5, aI l5)]) (st' := [aI (gI Y.1 68 0 (ix (l5 + (nI 1)))), aR 0 0]) (cs' := [vp_in (l5 + (nI 1)) L]) (fun _ => rfl) (al1 (vin hc1)) ?_
  refine l_if_eq k334 rfl (fun c => ?_) (fun c => ?_)
  · replace h := if_t c h
    refine l_sg k334 1 (pc' := 437) (ls' := [(0, aR 68 0), (1, aR 0 0), (2, aR 48 0), (3, aR 66 0), (4, aR 67 0), (5, aI l5)]) (st' := [aI (nI 0), aR 0 0]) (cs' := []) (fun _ => rfl) al0 ?_
    obtain ⟨v4, Y2, hv3, h⟩ := bd_some h
    refine l_cV1 (n := m + 8) (b' := 0) k334 (sn_110 _ _ _ hv3) rfl (st := []) rfl ?_
    refine l_sg k334 6 (pc' := 447) (ls' := [(0, aR 68 0), (1, aR 0 0), (2, aR 48 0), (3, aR 66 0), (4, aR 67 0), (5, aI l5)]) (st' := [aI (gI Y2.1 68 0 (ix (l5 + (nI 1)))), aR 48 0, aI v4]) (cs' := [vp_in (l5 + (nI 1)) L]) (fun _ => rfl) (al1 (vin hc1)) ?_
    refine l_if_eq k334 rfl (fun c => ?_) (fun c => ?_)
    · replace h := if_t c h
      refine l_sg k334 1 (pc' := 455) (ls' := [(0, aR 68 0), (1, aR 0 0), (2, aR 48 0), (3, aR 66 0), (4, aR 67 0), (5, aI l5)]) (st' := [aI (nI 0), aR 48 0, aI v4]) (cs' := []) (fun _ => rfl) al0 ?_
      obtain ⟨v7, Y5, hv6, h⟩ := bd_some h
      refine l_cV1 (n := m + 8) (b' := 0) k334 (sn_295 _ _ _ hv6) rfl (st := [aI v4]) rfl ?_
      refine l_icmp_eq k334 rfl (fun c => ?_) (fun c => ?_)
      · replace h := if_t c h
        refine l_sg k334 1 (pc' := 2736) (ls' := [(0, aR 68 0), (1, aR 0 0), (2, aR 48 0), (3, aR 66 0), (4, aR 67 0), (5, aI (l5 + (nI 6)))]) (st' := []) (cs' := []) (fun _ => rfl) al0 ?_
        refine l_sg k334 1 (pc' := 28) (ls' := [(0, aR 68 0), (1, aR 0 0), (2, aR 48 0), (3, aR 66 0), (4, aR 67 0), (5, aI (l5 + (nI 6)))]) (st' := []) (cs' := []) (fun _ => rfl) al0 ?_
        refine l_ls [(0, aR 68 0), (1, aR 0 0), (2, aR 48 0), (3, aR 66 0), (4, aR 67 0), (5, aI (l5 + (nI 6)))] (lq_c rfl (lq_c rfl (lq_c rfl (lq_c rfl (lq_c rfl (lq_c rfl lq_n)))))) ?_
        obtain rfl := Option.some.inj h
        exact l_mono (hi _ _ rfl)
      · replace h := if_f c h
        refine l_sg k334 1 (pc' := 462) (ls' := [(0, aR 68 0), (1, aR 0 0), (2, aR 48 0), (3, aR 66 0), (4, aR 67 0), (5, aI l5)]) (st' := [aI (nI 0)]) (cs' := []) (fun _ => rfl) al0 ?_
        obtain rfl := Option.some.inj h
        exact l_zreturn k334 (Or.inl rfl) (hr _ rfl)
    · replace h := if_f c h
      refine l_sg k334 2 (pc' := 455) (ls' := [(0, aR 68 0), (1, aR 0 0), (2, aR 48 0), (3, aR 66 0), (4, aR 67 0), (5, aI l5)]) (st' := [aI (nI 1), aR 48 0, aI v4]) (cs' := []) (fun _ => rfl) al0 ?_
      obtain ⟨v10, Y8, hv9, h⟩ := bd_some h
      refine l_cV1 (n := m + 8) (b' := 0) k334 (sn_295 _ _ _ hv9) rfl (st := [aI v4]) rfl ?_
      refine l_icmp_eq k334 rfl (fun c => ?_) (fun c => ?_)
      · replace h := if_t c h
        refine l_sg k334 1 (pc' := 2736) (ls' := [(0, aR 68 0), (1, aR 0 0), (2, aR 48 0), (3, aR 66 0), (4, aR 67 0), (5, aI (l5 + (nI 6)))]) (st' := []) (cs' := []) (fun _ => rfl) al0 ?_
        refine l_sg k334 1 (pc' := 28) (ls' := [(0, aR 68 0), (1, aR 0 0), (2, aR 48 0), (3, aR 66 0), (4, aR 67 0), (5, aI (l5 + (nI 6)))]) (st' := []) (cs' := []) (fun _ => rfl) al0 ?_
        refine l_ls [(0, aR 68 0), (1, aR 0 0), (2, aR 48 0), (3, aR 66 0), (4, aR 67 0), (5, aI (l5 + (nI 6)))] (lq_c rfl (lq_c rfl (lq_c rfl (lq_c rfl (lq_c rfl (lq_c rfl lq_n)))))) ?_
        obtain rfl := Option.some.inj h
        exact l_mono (hi _ _ rfl)
      · replace h := if_f c h
        refine l_sg k334 1 (pc' := 462) (ls' := [(0, aR 68 0), (1, aR 0 0), (2, aR 48 0), (3, aR 66 0), (4, aR 67 0), (5, aI l5)]) (st' := [aI (nI 0)]) (cs' := []) (fun _ => rfl) al0 ?_
        obtain rfl := Option.some.inj h
        exact l_zreturn k334 (Or.inl rfl) (hr _ rfl)
  · replace h := if_f c h
    refine l_sg k334 2 (pc' := 437) (ls' := [(0, aR 68 0), (1, aR 0 0), (2, aR 48 0), (3, aR 66 0), (4, aR 67 0), (5, aI l5)]) (st' := [aI (nI 1), aR 0 0]) (cs' := []) (fun _ => rfl) al0 ?_
    obtain ⟨v13, Y11, hv12, h⟩ := bd_some h
    refine l_cV1 (n := m + 8) (b' := 0) k334 (sn_110 _ _ _ hv12) rfl (st := []) rfl ?_
    refine l_sg k334 6 (pc' := 447) (ls' := [(0, aR 68 0), (1, aR 0 0), (2, aR 48 0), (3, aR 66 0), (4, aR 67 0), (5, aI l5)]) (st' := [aI (gI Y11.1 68 0 (ix (l5 + (nI 1)))), aR 48 0, aI v13]) (cs' := [vp_in (l5 + (nI 1)) L]) (fun _ => rfl) (al1 (vin hc1)) ?_
    refine l_if_eq k334 rfl (fun c => ?_) (fun c => ?_)
    · replace h := if_t c h
      refine l_sg k334 1 (pc' := 455) (ls' := [(0, aR 68 0), (1, aR 0 0), (2, aR 48 0), (3, aR 66 0), (4, aR 67 0), (5, aI l5)]) (st' := [aI (nI 0), aR 48 0, aI v13]) (cs' := []) (fun _ => rfl) al0 ?_
      obtain ⟨v16, Y14, hv15, h⟩ := bd_some h
      refine l_cV1 (n := m + 8) (b' := 0) k334 (sn_295 _ _ _ hv15) rfl (st := [aI v13]) rfl ?_
      refine l_icmp_eq k334 rfl (fun c => ?_) (fun c => ?_)
      · replace h := if_t c h
        refine l_sg k334 1 (pc' := 2736) (ls' := [(0, aR 68 0), (1, aR 0 0), (2, aR 48 0), (3, aR 66 0), (4, aR 67 0), (5, aI (l5 + (nI 6)))]) (st' := []) (cs' := []) (fun _ => rfl) al0 ?_
        refine l_sg k334 1 (pc' := 28) (ls' := [(0, aR 68 0), (1, aR 0 0), (2, aR 48 0), (3, aR 66 0), (4, aR 67 0), (5, aI (l5 + (nI 6)))]) (st' := []) (cs' := []) (fun _ => rfl) al0 ?_
        refine l_ls [(0, aR 68 0), (1, aR 0 0), (2, aR 48 0), (3, aR 66 0), (4, aR 67 0), (5, aI (l5 + (nI 6)))] (lq_c rfl (lq_c rfl (lq_c rfl (lq_c rfl (lq_c rfl (lq_c rfl lq_n)))))) ?_
        obtain rfl := Option.some.inj h
        exact l_mono (hi _ _ rfl)
      · replace h := if_f c h
        refine l_sg k334 1 (pc' := 462) (ls' := [(0, aR 68 0), (1, aR 0 0), (2, aR 48 0), (3, aR 66 0), (4, aR 67 0), (5, aI l5)]) (st' := [aI (nI 0)]) (cs' := []) (fun _ => rfl) al0 ?_
        obtain rfl := Option.some.inj h
        exact l_zreturn k334 (Or.inl rfl) (hr _ rfl)
    · replace h := if_f c h
      refine l_sg k334 2 (pc' := 455) (ls' := [(0, aR 68 0), (1, aR 0 0), (2, aR 48 0), (3, aR 66 0), (4, aR 67 0), (5, aI l5)]) (st' := [aI (nI 1), aR 48 0, aI v13]) (cs' := []) (fun _ => rfl) al0 ?_
      obtain ⟨v19, Y17, hv18, h⟩ := bd_some h
      refine l_cV1 (n := m + 8) (b' := 0) k334 (sn_295 _ _ _ hv18) rfl (st := [aI v13]) rfl ?_
      refine l_icmp_eq k334 rfl (fun c => ?_) (fun c => ?_)
      · replace h := if_t c h
        refine l_sg k334 1 (pc' := 2736) (ls' := [(0, aR 68 0), (1, aR 0 0), (2, aR 48 0), (3, aR 66 0), (4, aR 67 0), (5, aI (l5 + (nI 6)))]) (st' := []) (cs' := []) (fun _ => rfl) al0 ?_
        refine l_sg k334 1 (pc' := 28) (ls' := [(0, aR 68 0), (1, aR 0 0), (2, aR 48 0), (3, aR 66 0), (4, aR 67 0), (5, aI (l5 + (nI 6)))]) (st' := []) (cs' := []) (fun _ => rfl) al0 ?_
        refine l_ls [(0, aR 68 0), (1, aR 0 0), (2, aR 48 0), (3, aR 66 0), (4, aR 67 0), (5, aI (l5 + (nI 6)))] (lq_c rfl (lq_c rfl (lq_c rfl (lq_c rfl (lq_c rfl (lq_c rfl lq_n)))))) ?_
        obtain rfl := Option.some.inj h
        exact l_mono (hi _ _ rfl)
      · replace h := if_f c h
        refine l_sg k334 1 (pc' := 462) (ls' := [(0, aR 68 0), (1, aR 0 0), (2, aR 48 0), (3, aR 66 0), (4, aR 67 0), (5, aI l5)]) (st' := [aI (nI 0)]) (cs' := []) (fun _ => rfl) al0 ?_
        obtain rfl := Option.some.inj h
        exact l_zreturn k334 (Or.inl rfl) (hr _ rfl)
def fn_334_J463 (L : Nat) (l5 : Int32) (Y : Sm) : Option ((Int32 × Sm) ⊕ (Int32 × Sm)) :=
  ck (inb (l5 + (nI 1)) L) <| ck (inb (l5 + (nI 2)) L) <| bd (fn_300 (gI Y.1 68 0 (ix (l5 + (nI 1)))) (gI Y.1 68 0 (ix (l5 + (nI 2)))) Y) fun v5 Y3 => bd (fn_228 (gI Y3.1 68 0 (ix (l5 + (nI 1)))) (gI Y3.1 68 0 (ix (l5 + (nI 2)))) Y3) fun v8 Y6 => bd (fn_163 Y6) fun v11 Y9 => (if v11 = v5 then (if v5 = (nI 0) then (if (lg_cmp (gJ Y9.1 66 0 0) ((v8).toInt64)) = (nI 0) then some (.inl ((l5 + (nI 6)), Y9)) else some (.inr ((nI 0), Y9))) else some (.inl ((l5 + (nI 6)), Y9))) else some (.inr ((nI 0), Y9)))
set_option maxRecDepth 20000 in
set_option maxHeartbeats 4000000 in
theorem sn_334_J463 {L B m : Nat} {l5 : Int32} {Y : Sm} {q : (Int32 × Sm) ⊕ (Int32 × Sm)} {P : Option Av → Sm → Prop} {E : Nat → Sm → Prop} (hi : ∀ i Z, q = .inl (i, Z) → Wl L 16 B m 28 [(0, aR 68 0), (1, aR 0 0), (2, aR 48 0), (3, aR 66 0), (4, aR 67 0), (5, aI i)] [] Z P E) (hr : ∀ o : Int32 × Sm, q = .inr o → P (some (aI o.1)) o.2) (h : fn_334_J463 L l5 Y = some q) : Wl L 16 B (m + 8) 463 [(0, aR 68 0), (1, aR 0 0), (2, aR 48 0), (3, aR 66 0), (4, aR 67 0), (5, aI l5)] [] Y P E := by
  unfold fn_334_J463 at h
  obtain ⟨hc1, h⟩ := ck_some h
  refine l_sg k334 8 (pc' := 473) (ls' := [(0, aR 68 0), (1, aR 0 0), (2, aR 48 0), (3, aR 66 0), (4, aR 67 0), (5, aI l5)]) (st' := [aI l5, aR 68 0, aI (gI Y.1 68 0 (ix (l5 + (nI 1)))), aR 0 0]) (cs' := [vp_in (l5 + (nI 1)) L]) (fun _ => rfl) (al1 (vin hc1)) ?_
  obtain ⟨hc2, h⟩ := ck_some h
  refine l_sg k334 4 (pc' := 477) (ls' := [(0, aR 68 0), (1, aR 0 0), (2, aR 48 0), (3, aR 66 0), (4, aR 67 0), (5, aI l5)]) (st' := [aR 66 0, aI (gI Y.1 68 0 (ix (l5 + (nI 2)))), aI (gI Y.1 68 0 (ix (l5 + (nI 1)))), aR 0 0]) (cs' := [vp_in (l5 + (nI 2)) L]) (fun _ => rfl) (al1 (vin hc2)) ?_
  obtain ⟨v5, Y3, hv4, h⟩ := bd_some h
  refine l_cS1 (n := m + 6) (b' := 2) k334 (sn_300 _ _ _ _ hv4) rfl (st := []) rfl ?_
  refine l_sg k334 1 (pc' := 482) (ls' := [(0, aR 68 0), (1, aR 0 0), (2, aR 48 0), (3, aR 66 0), (4, aR 67 0), (5, aI l5), (6, aI v5)]) (st' := []) (cs' := []) (fun _ => rfl) al0 ?_
  refine l_sg k334 8 (pc' := 492) (ls' := [(0, aR 68 0), (1, aR 0 0), (2, aR 48 0), (3, aR 66 0), (4, aR 67 0), (5, aI l5), (6, aI v5)]) (st' := [aI l5, aR 68 0, aI (gI Y3.1 68 0 (ix (l5 + (nI 1)))), aR 48 0]) (cs' := [vp_in (l5 + (nI 1)) L]) (fun _ => rfl) (al1 (vin hc1)) ?_
  refine l_sg k334 3 (pc' := 495) (ls' := [(0, aR 68 0), (1, aR 0 0), (2, aR 48 0), (3, aR 66 0), (4, aR 67 0), (5, aI l5), (6, aI v5)]) (st' := [aI (gI Y3.1 68 0 (ix (l5 + (nI 2)))), aI (gI Y3.1 68 0 (ix (l5 + (nI 1)))), aR 48 0]) (cs' := [vp_in (l5 + (nI 2)) L]) (fun _ => rfl) (al1 (vin hc2)) ?_
  obtain ⟨v8, Y6, hv7, h⟩ := bd_some h
  refine l_cV1 (n := m + 6) (b' := 0) k334 (sn_228 _ _ _ _ hv7) rfl (st := []) rfl ?_
  refine l_sg k334 1 (pc' := 500) (ls' := [(0, aR 68 0), (1, aR 0 0), (2, aR 48 0), (3, aR 66 0), (4, aR 67 0), (5, aI l5), (6, aI v5), (7, aI v8)]) (st' := []) (cs' := []) (fun _ => rfl) al0 ?_
  refine l_sg k334 1 (pc' := 501) (ls' := [(0, aR 68 0), (1, aR 0 0), (2, aR 48 0), (3, aR 66 0), (4, aR 67 0), (5, aI l5), (6, aI v5), (7, aI v8)]) (st' := [aR 48 0]) (cs' := []) (fun _ => rfl) al0 ?_
  obtain ⟨v11, Y9, hv10, h⟩ := bd_some h
  refine l_cV1 (n := m + 6) (b' := 0) k334 (sn_163  _ _ hv10) rfl (st := []) rfl ?_
  refine l_sg k334 1 (pc' := 506) (ls' := [(0, aR 68 0), (1, aR 0 0), (2, aR 48 0), (3, aR 66 0), (4, aR 67 0), (5, aI l5), (6, aI v5), (7, aI v8)]) (st' := [aI v5, aI v11]) (cs' := []) (fun _ => rfl) al0 ?_
  refine l_icmp_eq k334 rfl (fun c => ?_) (fun c => ?_)
  · replace h := if_t c h
    refine l_sg k334 1 (pc' := 513) (ls' := [(0, aR 68 0), (1, aR 0 0), (2, aR 48 0), (3, aR 66 0), (4, aR 67 0), (5, aI l5), (6, aI v5), (7, aI v8)]) (st' := [aI v5]) (cs' := []) (fun _ => rfl) al0 ?_
    refine l_if_ne k334 rfl (fun c => ?_) (fun c => ?_)
    · replace h := if_f c h
      refine l_sg k334 2 (pc' := 2736) (ls' := [(0, aR 68 0), (1, aR 0 0), (2, aR 48 0), (3, aR 66 0), (4, aR 67 0), (5, aI (l5 + (nI 6))), (6, aI v5), (7, aI v8)]) (st' := []) (cs' := []) (fun _ => rfl) al0 ?_
      refine l_sg k334 1 (pc' := 28) (ls' := [(0, aR 68 0), (1, aR 0 0), (2, aR 48 0), (3, aR 66 0), (4, aR 67 0), (5, aI (l5 + (nI 6))), (6, aI v5), (7, aI v8)]) (st' := []) (cs' := []) (fun _ => rfl) al0 ?_
      refine l_ls [(0, aR 68 0), (1, aR 0 0), (2, aR 48 0), (3, aR 66 0), (4, aR 67 0), (5, aI (l5 + (nI 6)))] (lq_c rfl (lq_c rfl (lq_c rfl (lq_c rfl (lq_c rfl (lq_c rfl lq_n)))))) ?_
      obtain rfl := Option.some.inj h
      exact l_mono (hi _ _ rfl)
    · replace h := if_t c h
      refine l_sg k334 6 (pc' := 523) (ls' := [(0, aR 68 0), (1, aR 0 0), (2, aR 48 0), (3, aR 66 0), (4, aR 67 0), (5, aI l5), (6, aI v5), (7, aI v8)]) (st' := [aI (lg_cmp (gJ Y9.1 66 0 0) ((v8).toInt64))]) (cs' := [vp_in (nI 0) 1]) (fun _ => rfl) (al1 (vin rfl)) ?_
      refine l_if_eq k334 rfl (fun c => ?_) (fun c => ?_)
      · replace h := if_t c h
        refine l_sg k334 2 (pc' := 2736) (ls' := [(0, aR 68 0), (1, aR 0 0), (2, aR 48 0), (3, aR 66 0), (4, aR 67 0), (5, aI (l5 + (nI 6))), (6, aI v5), (7, aI v8)]) (st' := []) (cs' := []) (fun _ => rfl) al0 ?_
        refine l_sg k334 1 (pc' := 28) (ls' := [(0, aR 68 0), (1, aR 0 0), (2, aR 48 0), (3, aR 66 0), (4, aR 67 0), (5, aI (l5 + (nI 6))), (6, aI v5), (7, aI v8)]) (st' := []) (cs' := []) (fun _ => rfl) al0 ?_
        refine l_ls [(0, aR 68 0), (1, aR 0 0), (2, aR 48 0), (3, aR 66 0), (4, aR 67 0), (5, aI (l5 + (nI 6)))] (lq_c rfl (lq_c rfl (lq_c rfl (lq_c rfl (lq_c rfl (lq_c rfl lq_n)))))) ?_
        obtain rfl := Option.some.inj h
        exact l_mono (hi _ _ rfl)
      · replace h := if_f c h
        refine l_sg k334 1 (pc' := 527) (ls' := [(0, aR 68 0), (1, aR 0 0), (2, aR 48 0), (3, aR 66 0), (4, aR 67 0), (5, aI l5), (6, aI v5), (7, aI v8)]) (st' := [aI (nI 0)]) (cs' := []) (fun _ => rfl) al0 ?_
        obtain rfl := Option.some.inj h
        exact l_zreturn k334 (Or.inl rfl) (hr _ rfl)
  · replace h := if_f c h
    refine l_sg k334 1 (pc' := 510) (ls' := [(0, aR 68 0), (1, aR 0 0), (2, aR 48 0), (3, aR 66 0), (4, aR 67 0), (5, aI l5), (6, aI v5), (7, aI v8)]) (st' := [aI (nI 0)]) (cs' := []) (fun _ => rfl) al0 ?_
    obtain rfl := Option.some.inj h
    exact l_zreturn k334 (Or.inl rfl) (hr _ rfl)
def fn_334_J531 (L : Nat) (l5 : Int32) (Y : Sm) : Option ((Int32 × Sm) ⊕ (Int32 × Sm)) :=
  ck (inb (l5 + (nI 1)) L) <| ck (inb (l5 + (nI 2)) L) <| bd (fn_301 (gI Y.1 68 0 (ix (l5 + (nI 1)))) (gI Y.1 68 0 (ix (l5 + (nI 2)))) Y) fun v5 Y3 => bd (fn_231 (gI Y3.1 68 0 (ix (l5 + (nI 1)))) (gI Y3.1 68 0 (ix (l5 + (nI 2)))) Y3) fun v8 Y6 => bd (fn_163 Y6) fun v11 Y9 => (if v11 = v5 then (if v5 = (nI 0) then (if (lg_cmp (gJ Y9.1 66 0 0) ((v8).toInt64)) = (nI 0) then some (.inl ((l5 + (nI 6)), Y9)) else some (.inr ((nI 0), Y9))) else some (.inl ((l5 + (nI 6)), Y9))) else some (.inr ((nI 0), Y9)))
set_option maxRecDepth 20000 in
set_option maxHeartbeats 4000000 in
theorem sn_334_J531 {L B m : Nat} {l5 : Int32} {Y : Sm} {q : (Int32 × Sm) ⊕ (Int32 × Sm)} {P : Option Av → Sm → Prop} {E : Nat → Sm → Prop} (hi : ∀ i Z, q = .inl (i, Z) → Wl L 16 B m 28 [(0, aR 68 0), (1, aR 0 0), (2, aR 48 0), (3, aR 66 0), (4, aR 67 0), (5, aI i)] [] Z P E) (hr : ∀ o : Int32 × Sm, q = .inr o → P (some (aI o.1)) o.2) (h : fn_334_J531 L l5 Y = some q) : Wl L 16 B (m + 8) 531 [(0, aR 68 0), (1, aR 0 0), (2, aR 48 0), (3, aR 66 0), (4, aR 67 0), (5, aI l5)] [] Y P E := by
  unfold fn_334_J531 at h
  obtain ⟨hc1, h⟩ := ck_some h
  refine l_sg k334 8 (pc' := 541) (ls' := [(0, aR 68 0), (1, aR 0 0), (2, aR 48 0), (3, aR 66 0), (4, aR 67 0), (5, aI l5)]) (st' := [aI l5, aR 68 0, aI (gI Y.1 68 0 (ix (l5 + (nI 1)))), aR 0 0]) (cs' := [vp_in (l5 + (nI 1)) L]) (fun _ => rfl) (al1 (vin hc1)) ?_
  obtain ⟨hc2, h⟩ := ck_some h
  refine l_sg k334 4 (pc' := 545) (ls' := [(0, aR 68 0), (1, aR 0 0), (2, aR 48 0), (3, aR 66 0), (4, aR 67 0), (5, aI l5)]) (st' := [aR 66 0, aI (gI Y.1 68 0 (ix (l5 + (nI 2)))), aI (gI Y.1 68 0 (ix (l5 + (nI 1)))), aR 0 0]) (cs' := [vp_in (l5 + (nI 2)) L]) (fun _ => rfl) (al1 (vin hc2)) ?_
  obtain ⟨v5, Y3, hv4, h⟩ := bd_some h
  refine l_cS1 (n := m + 6) (b' := 2) k334 (sn_301 _ _ _ _ hv4) rfl (st := []) rfl ?_
  refine l_sg k334 1 (pc' := 550) (ls' := [(0, aR 68 0), (1, aR 0 0), (2, aR 48 0), (3, aR 66 0), (4, aR 67 0), (5, aI l5), (6, aI v5)]) (st' := []) (cs' := []) (fun _ => rfl) al0 ?_
  refine l_sg k334 8 (pc' := 560) (ls' := [(0, aR 68 0), (1, aR 0 0), (2, aR 48 0), (3, aR 66 0), (4, aR 67 0), (5, aI l5), (6, aI v5)]) (st' := [aI l5, aR 68 0, aI (gI Y3.1 68 0 (ix (l5 + (nI 1)))), aR 48 0]) (cs' := [vp_in (l5 + (nI 1)) L]) (fun _ => rfl) (al1 (vin hc1)) ?_
  refine l_sg k334 3 (pc' := 563) (ls' := [(0, aR 68 0), (1, aR 0 0), (2, aR 48 0), (3, aR 66 0), (4, aR 67 0), (5, aI l5), (6, aI v5)]) (st' := [aI (gI Y3.1 68 0 (ix (l5 + (nI 2)))), aI (gI Y3.1 68 0 (ix (l5 + (nI 1)))), aR 48 0]) (cs' := [vp_in (l5 + (nI 2)) L]) (fun _ => rfl) (al1 (vin hc2)) ?_
  obtain ⟨v8, Y6, hv7, h⟩ := bd_some h
  refine l_cV1 (n := m + 6) (b' := 0) k334 (sn_231 _ _ _ _ hv7) rfl (st := []) rfl ?_
  refine l_sg k334 1 (pc' := 568) (ls' := [(0, aR 68 0), (1, aR 0 0), (2, aR 48 0), (3, aR 66 0), (4, aR 67 0), (5, aI l5), (6, aI v5), (7, aI v8)]) (st' := []) (cs' := []) (fun _ => rfl) al0 ?_
  refine l_sg k334 1 (pc' := 569) (ls' := [(0, aR 68 0), (1, aR 0 0), (2, aR 48 0), (3, aR 66 0), (4, aR 67 0), (5, aI l5), (6, aI v5), (7, aI v8)]) (st' := [aR 48 0]) (cs' := []) (fun _ => rfl) al0 ?_
  obtain ⟨v11, Y9, hv10, h⟩ := bd_some h
  refine l_cV1 (n := m + 6) (b' := 0) k334 (sn_163  _ _ hv10) rfl (st := []) rfl ?_
  refine l_sg k334 1 (pc' := 574) (ls' := [(0, aR 68 0), (1, aR 0 0), (2, aR 48 0), (3, aR 66 0), (4, aR 67 0), (5, aI l5), (6, aI v5), (7, aI v8)]) (st' := [aI v5, aI v11]) (cs' := []) (fun _ => rfl) al0 ?_
  refine l_icmp_eq k334 rfl (fun c => ?_) (fun c => ?_)
  · replace h := if_t c h
    refine l_sg k334 1 (pc' := 581) (ls' := [(0, aR 68 0), (1, aR 0 0), (2, aR 48 0), (3, aR 66 0), (4, aR 67 0), (5, aI l5), (6, aI v5), (7, aI v8)]) (st' := [aI v5]) (cs' := []) (fun _ => rfl) al0 ?_
    refine l_if_ne k334 rfl (fun c => ?_) (fun c => ?_)
    · replace h := if_f c h
      refine l_sg k334 2 (pc' := 2736) (ls' := [(0, aR 68 0), (1, aR 0 0), (2, aR 48 0), (3, aR 66 0), (4, aR 67 0), (5, aI (l5 + (nI 6))), (6, aI v5), (7, aI v8)]) (st' := []) (cs' := []) (fun _ => rfl) al0 ?_
      refine l_sg k334 1 (pc' := 28) (ls' := [(0, aR 68 0), (1, aR 0 0), (2, aR 48 0), (3, aR 66 0), (4, aR 67 0), (5, aI (l5 + (nI 6))), (6, aI v5), (7, aI v8)]) (st' := []) (cs' := []) (fun _ => rfl) al0 ?_
      refine l_ls [(0, aR 68 0), (1, aR 0 0), (2, aR 48 0), (3, aR 66 0), (4, aR 67 0), (5, aI (l5 + (nI 6)))] (lq_c rfl (lq_c rfl (lq_c rfl (lq_c rfl (lq_c rfl (lq_c rfl lq_n)))))) ?_
      obtain rfl := Option.some.inj h
      exact l_mono (hi _ _ rfl)
    · replace h := if_t c h
      refine l_sg k334 6 (pc' := 591) (ls' := [(0, aR 68 0), (1, aR 0 0), (2, aR 48 0), (3, aR 66 0), (4, aR 67 0), (5, aI l5), (6, aI v5), (7, aI v8)]) (st' := [aI (lg_cmp (gJ Y9.1 66 0 0) ((v8).toInt64))]) (cs' := [vp_in (nI 0) 1]) (fun _ => rfl) (al1 (vin rfl)) ?_
      refine l_if_eq k334 rfl (fun c => ?_) (fun c => ?_)
      · replace h := if_t c h
        refine l_sg k334 2 (pc' := 2736) (ls' := [(0, aR 68 0), (1, aR 0 0), (2, aR 48 0), (3, aR 66 0), (4, aR 67 0), (5, aI (l5 + (nI 6))), (6, aI v5), (7, aI v8)]) (st' := []) (cs' := []) (fun _ => rfl) al0 ?_
        refine l_sg k334 1 (pc' := 28) (ls' := [(0, aR 68 0), (1, aR 0 0), (2, aR 48 0), (3, aR 66 0), (4, aR 67 0), (5, aI (l5 + (nI 6))), (6, aI v5), (7, aI v8)]) (st' := []) (cs' := []) (fun _ => rfl) al0 ?_
        refine l_ls [(0, aR 68 0), (1, aR 0 0), (2, aR 48 0), (3, aR 66 0), (4, aR 67 0), (5, aI (l5 + (nI 6)))] (lq_c rfl (lq_c rfl (lq_c rfl (lq_c rfl (lq_c rfl (lq_c rfl lq_n)))))) ?_
        obtain rfl := Option.some.inj h
        exact l_mono (hi _ _ rfl)
      · replace h := if_f c h
        refine l_sg k334 1 (pc' := 595) (ls' := [(0, aR 68 0), (1, aR 0 0), (2, aR 48 0), (3, aR 66 0), (4, aR 67 0), (5, aI l5), (6, aI v5), (7, aI v8)]) (st' := [aI (nI 0)]) (cs' := []) (fun _ => rfl) al0 ?_
        obtain rfl := Option.some.inj h
        exact l_zreturn k334 (Or.inl rfl) (hr _ rfl)
  · replace h := if_f c h
    refine l_sg k334 1 (pc' := 578) (ls' := [(0, aR 68 0), (1, aR 0 0), (2, aR 48 0), (3, aR 66 0), (4, aR 67 0), (5, aI l5), (6, aI v5), (7, aI v8)]) (st' := [aI (nI 0)]) (cs' := []) (fun _ => rfl) al0 ?_
    obtain rfl := Option.some.inj h
    exact l_zreturn k334 (Or.inl rfl) (hr _ rfl)
def fn_334_J599 (L : Nat) (l5 : Int32) (Y : Sm) : Option ((Int32 × Sm) ⊕ (Int32 × Sm)) :=
  ck (inb (l5 + (nI 1)) L) <| ck (inb (l5 + (nI 2)) L) <| bd (fn_302 (gI Y.1 68 0 (ix (l5 + (nI 1)))) (gI Y.1 68 0 (ix (l5 + (nI 2)))) Y) fun v5 Y3 => bd (fn_233 (gI Y3.1 68 0 (ix (l5 + (nI 1)))) (gI Y3.1 68 0 (ix (l5 + (nI 2)))) Y3) fun v8 Y6 => bd (fn_163 Y6) fun v11 Y9 => (if v11 = v5 then (if v5 = (nI 0) then (if (lg_cmp (gJ Y9.1 66 0 0) ((v8).toInt64)) = (nI 0) then some (.inl ((l5 + (nI 6)), Y9)) else some (.inr ((nI 0), Y9))) else some (.inl ((l5 + (nI 6)), Y9))) else some (.inr ((nI 0), Y9)))
set_option maxRecDepth 20000 in
set_option maxHeartbeats 4000000 in
theorem sn_334_J599 {L B m : Nat} {l5 : Int32} {Y : Sm} {q : (Int32 × Sm) ⊕ (Int32 × Sm)} {P : Option Av → Sm → Prop} {E : Nat → Sm → Prop} (hi : ∀ i Z, q = .inl (i, Z) → Wl L 16 B m 28 [(0, aR 68 0), (1, aR 0 0), (2, aR 48 0), (3, aR 66 0), (4, aR 67 0), (5, aI i)] [] Z P E) (hr : ∀ o : Int32 × Sm, q = .inr o → P (some (aI o.1)) o.2) (h : fn_334_J599 L l5 Y = some q) : Wl L 16 B (m + 8) 599 [(0, aR 68 0), (1, aR 0 0), (2, aR 48 0), (3, aR 66 0), (4, aR 67 0), (5, aI l5)] [] Y P E := by
  unfold fn_334_J599 at h
  obtain ⟨hc1, h⟩ := ck_some h
  refine l_sg k334 8 (pc' := 609) (ls' := [(0, aR 68 0), (1, aR 0 0), (2, aR 48 0), (3, aR 66 0), (4, aR 67 0), (5, aI l5)]) (st' := [aI l5, aR 68 0, aI (gI Y.1 68 0 (ix (l5 + (nI 1)))), aR 0 0]) (cs' := [vp_in (l5 + (nI 1)) L]) (fun _ => rfl) (al1 (vin hc1)) ?_
  obtain ⟨hc2, h⟩ := ck_some h
  refine l_sg k334 4 (pc' := 613) (ls' := [(0, aR 68 0), (1, aR 0 0), (2, aR 48 0), (3, aR 66 0), (4, aR 67 0), (5, aI l5)]) (st' := [aR 66 0, aI (gI Y.1 68 0 (ix (l5 + (nI 2)))), aI (gI Y.1 68 0 (ix (l5 + (nI 1)))), aR 0 0]) (cs' := [vp_in (l5 + (nI 2)) L]) (fun _ => rfl) (al1 (vin hc2)) ?_
  obtain ⟨v5, Y3, hv4, h⟩ := bd_some h
  refine l_cS1 (n := m + 6) (b' := 2) k334 (sn_302 _ _ _ _ hv4) rfl (st := []) rfl ?_
  refine l_sg k334 1 (pc' := 618) (ls' := [(0, aR 68 0), (1, aR 0 0), (2, aR 48 0), (3, aR 66 0), (4, aR 67 0), (5, aI l5), (6, aI v5)]) (st' := []) (cs' := []) (fun _ => rfl) al0 ?_
  refine l_sg k334 8 (pc' := 628) (ls' := [(0, aR 68 0), (1, aR 0 0), (2, aR 48 0), (3, aR 66 0), (4, aR 67 0), (5, aI l5), (6, aI v5)]) (st' := [aI l5, aR 68 0, aI (gI Y3.1 68 0 (ix (l5 + (nI 1)))), aR 48 0]) (cs' := [vp_in (l5 + (nI 1)) L]) (fun _ => rfl) (al1 (vin hc1)) ?_
  refine l_sg k334 3 (pc' := 631) (ls' := [(0, aR 68 0), (1, aR 0 0), (2, aR 48 0), (3, aR 66 0), (4, aR 67 0), (5, aI l5), (6, aI v5)]) (st' := [aI (gI Y3.1 68 0 (ix (l5 + (nI 2)))), aI (gI Y3.1 68 0 (ix (l5 + (nI 1)))), aR 48 0]) (cs' := [vp_in (l5 + (nI 2)) L]) (fun _ => rfl) (al1 (vin hc2)) ?_
  obtain ⟨v8, Y6, hv7, h⟩ := bd_some h
  refine l_cV1 (n := m + 6) (b' := 0) k334 (sn_233 _ _ _ _ hv7) rfl (st := []) rfl ?_
  refine l_sg k334 1 (pc' := 636) (ls' := [(0, aR 68 0), (1, aR 0 0), (2, aR 48 0), (3, aR 66 0), (4, aR 67 0), (5, aI l5), (6, aI v5), (7, aI v8)]) (st' := []) (cs' := []) (fun _ => rfl) al0 ?_
  refine l_sg k334 1 (pc' := 637) (ls' := [(0, aR 68 0), (1, aR 0 0), (2, aR 48 0), (3, aR 66 0), (4, aR 67 0), (5, aI l5), (6, aI v5), (7, aI v8)]) (st' := [aR 48 0]) (cs' := []) (fun _ => rfl) al0 ?_
  obtain ⟨v11, Y9, hv10, h⟩ := bd_some h
  refine l_cV1 (n := m + 6) (b' := 0) k334 (sn_163  _ _ hv10) rfl (st := []) rfl ?_
  refine l_sg k334 1 (pc' := 642) (ls' := [(0, aR 68 0), (1, aR 0 0), (2, aR 48 0), (3, aR 66 0), (4, aR 67 0), (5, aI l5), (6, aI v5), (7, aI v8)]) (st' := [aI v5, aI v11]) (cs' := []) (fun _ => rfl) al0 ?_
  refine l_icmp_eq k334 rfl (fun c => ?_) (fun c => ?_)
  · replace h := if_t c h
    refine l_sg k334 1 (pc' := 649) (ls' := [(0, aR 68 0), (1, aR 0 0), (2, aR 48 0), (3, aR 66 0), (4, aR 67 0), (5, aI l5), (6, aI v5), (7, aI v8)]) (st' := [aI v5]) (cs' := []) (fun _ => rfl) al0 ?_
    refine l_if_ne k334 rfl (fun c => ?_) (fun c => ?_)
    · replace h := if_f c h
      refine l_sg k334 2 (pc' := 2736) (ls' := [(0, aR 68 0), (1, aR 0 0), (2, aR 48 0), (3, aR 66 0), (4, aR 67 0), (5, aI (l5 + (nI 6))), (6, aI v5), (7, aI v8)]) (st' := []) (cs' := []) (fun _ => rfl) al0 ?_
      refine l_sg k334 1 (pc' := 28) (ls' := [(0, aR 68 0), (1, aR 0 0), (2, aR 48 0), (3, aR 66 0), (4, aR 67 0), (5, aI (l5 + (nI 6))), (6, aI v5), (7, aI v8)]) (st' := []) (cs' := []) (fun _ => rfl) al0 ?_
      refine l_ls [(0, aR 68 0), (1, aR 0 0), (2, aR 48 0), (3, aR 66 0), (4, aR 67 0), (5, aI (l5 + (nI 6)))] (lq_c rfl (lq_c rfl (lq_c rfl (lq_c rfl (lq_c rfl (lq_c rfl lq_n)))))) ?_
      obtain rfl := Option.some.inj h
      exact l_mono (hi _ _ rfl)
    · replace h := if_t c h
      refine l_sg k334 6 (pc' := 659) (ls' := [(0, aR 68 0), (1, aR 0 0), (2, aR 48 0), (3, aR 66 0), (4, aR 67 0), (5, aI l5), (6, aI v5), (7, aI v8)]) (st' := [aI (lg_cmp (gJ Y9.1 66 0 0) ((v8).toInt64))]) (cs' := [vp_in (nI 0) 1]) (fun _ => rfl) (al1 (vin rfl)) ?_
      refine l_if_eq k334 rfl (fun c => ?_) (fun c => ?_)
      · replace h := if_t c h
        refine l_sg k334 2 (pc' := 2736) (ls' := [(0, aR 68 0), (1, aR 0 0), (2, aR 48 0), (3, aR 66 0), (4, aR 67 0), (5, aI (l5 + (nI 6))), (6, aI v5), (7, aI v8)]) (st' := []) (cs' := []) (fun _ => rfl) al0 ?_
        refine l_sg k334 1 (pc' := 28) (ls' := [(0, aR 68 0), (1, aR 0 0), (2, aR 48 0), (3, aR 66 0), (4, aR 67 0), (5, aI (l5 + (nI 6))), (6, aI v5), (7, aI v8)]) (st' := []) (cs' := []) (fun _ => rfl) al0 ?_
        refine l_ls [(0, aR 68 0), (1, aR 0 0), (2, aR 48 0), (3, aR 66 0), (4, aR 67 0), (5, aI (l5 + (nI 6)))] (lq_c rfl (lq_c rfl (lq_c rfl (lq_c rfl (lq_c rfl (lq_c rfl lq_n)))))) ?_
        obtain rfl := Option.some.inj h
        exact l_mono (hi _ _ rfl)
      · replace h := if_f c h
        refine l_sg k334 1 (pc' := 663) (ls' := [(0, aR 68 0), (1, aR 0 0), (2, aR 48 0), (3, aR 66 0), (4, aR 67 0), (5, aI l5), (6, aI v5), (7, aI v8)]) (st' := [aI (nI 0)]) (cs' := []) (fun _ => rfl) al0 ?_
        obtain rfl := Option.some.inj h
        exact l_zreturn k334 (Or.inl rfl) (hr _ rfl)
  · replace h := if_f c h
    refine l_sg k334 1 (pc' := 646) (ls' := [(0, aR 68 0), (1, aR 0 0), (2, aR 48 0), (3, aR 66 0), (4, aR 67 0), (5, aI l5), (6, aI v5), (7, aI v8)]) (st' := [aI (nI 0)]) (cs' := []) (fun _ => rfl) al0 ?_
    obtain rfl := Option.some.inj h
    exact l_zreturn k334 (Or.inl rfl) (hr _ rfl)
def fn_334_J667 (L : Nat) (l5 : Int32) (Y : Sm) : Option ((Int32 × Sm) ⊕ (Int32 × Sm)) :=
  ck (inb (l5 + (nI 1)) L) <| bd (fn_303 (gI Y.1 68 0 (ix (l5 + (nI 1)))) Y) fun v4 Y2 => bd (fn_234 (gI Y2.1 68 0 (ix (l5 + (nI 1)))) Y2) fun v7 Y5 => bd (fn_163 Y5) fun v10 Y8 => (if v10 = v4 then (if v4 = (nI 0) then (if (lg_cmp (gJ Y8.1 66 0 0) ((v7).toInt64)) = (nI 0) then some (.inl ((l5 + (nI 6)), Y8)) else some (.inr ((nI 0), Y8))) else some (.inl ((l5 + (nI 6)), Y8))) else some (.inr ((nI 0), Y8)))
set_option maxRecDepth 20000 in
set_option maxHeartbeats 4000000 in
theorem sn_334_J667 {L B m : Nat} {l5 : Int32} {Y : Sm} {q : (Int32 × Sm) ⊕ (Int32 × Sm)} {P : Option Av → Sm → Prop} {E : Nat → Sm → Prop} (hi : ∀ i Z, q = .inl (i, Z) → Wl L 16 B m 28 [(0, aR 68 0), (1, aR 0 0), (2, aR 48 0), (3, aR 66 0), (4, aR 67 0), (5, aI i)] [] Z P E) (hr : ∀ o : Int32 × Sm, q = .inr o → P (some (aI o.1)) o.2) (h : fn_334_J667 L l5 Y = some q) : Wl L 16 B (m + 8) 667 [(0, aR 68 0), (1, aR 0 0), (2, aR 48 0), (3, aR 66 0), (4, aR 67 0), (5, aI l5)] [] Y P E := by
  unfold fn_334_J667 at h
  obtain ⟨hc1, h⟩ := ck_some h
  refine l_sg k334 7 (pc' := 675) (ls' := [(0, aR 68 0), (1, aR 0 0), (2, aR 48 0), (3, aR 66 0), (4, aR 67 0), (5, aI l5)]) (st' := [aR 66 0, aI (gI Y.1 68 0 (ix (l5 + (nI 1)))), aR 0 0]) (cs' := [vp_in (l5 + (nI 1)) L]) (fun _ => rfl) (al1 (vin hc1)) ?_
  obtain ⟨v4, Y2, hv3, h⟩ := bd_some h
  refine l_cS1 (n := m + 7) (b' := 1) k334 (sn_303 _ _ _ hv3) rfl (st := []) rfl ?_
  refine l_sg k334 1 (pc' := 680) (ls' := [(0, aR 68 0), (1, aR 0 0), (2, aR 48 0), (3, aR 66 0), (4, aR 67 0), (5, aI l5), (6, aI v4)]) (st' := []) (cs' := []) (fun _ => rfl) al0 ?_
  refine l_sg k334 6 (pc' := 687) (ls' := [(0, aR 68 0), (1, aR 0 0), (2, aR 48 0), (3, aR 66 0), (4, aR 67 0), (5, aI l5), (6, aI v4)]) (st' := [aI (gI Y2.1 68 0 (ix (l5 + (nI 1)))), aR 48 0]) (cs' := [vp_in (l5 + (nI 1)) L]) (fun _ => rfl) (al1 (vin hc1)) ?_
  obtain ⟨v7, Y5, hv6, h⟩ := bd_some h
  refine l_cV1 (n := m + 7) (b' := 0) k334 (sn_234 _ _ _ hv6) rfl (st := []) rfl ?_
  refine l_sg k334 1 (pc' := 692) (ls' := [(0, aR 68 0), (1, aR 0 0), (2, aR 48 0), (3, aR 66 0), (4, aR 67 0), (5, aI l5), (6, aI v4), (7, aI v7)]) (st' := []) (cs' := []) (fun _ => rfl) al0 ?_
  refine l_sg k334 1 (pc' := 693) (ls' := [(0, aR 68 0), (1, aR 0 0), (2, aR 48 0), (3, aR 66 0), (4, aR 67 0), (5, aI l5), (6, aI v4), (7, aI v7)]) (st' := [aR 48 0]) (cs' := []) (fun _ => rfl) al0 ?_
  obtain ⟨v10, Y8, hv9, h⟩ := bd_some h
  refine l_cV1 (n := m + 7) (b' := 0) k334 (sn_163  _ _ hv9) rfl (st := []) rfl ?_
  refine l_sg k334 1 (pc' := 698) (ls' := [(0, aR 68 0), (1, aR 0 0), (2, aR 48 0), (3, aR 66 0), (4, aR 67 0), (5, aI l5), (6, aI v4), (7, aI v7)]) (st' := [aI v4, aI v10]) (cs' := []) (fun _ => rfl) al0 ?_
  refine l_icmp_eq k334 rfl (fun c => ?_) (fun c => ?_)
  · replace h := if_t c h
    refine l_sg k334 1 (pc' := 705) (ls' := [(0, aR 68 0), (1, aR 0 0), (2, aR 48 0), (3, aR 66 0), (4, aR 67 0), (5, aI l5), (6, aI v4), (7, aI v7)]) (st' := [aI v4]) (cs' := []) (fun _ => rfl) al0 ?_
    refine l_if_ne k334 rfl (fun c => ?_) (fun c => ?_)
    · replace h := if_f c h
      refine l_sg k334 2 (pc' := 2736) (ls' := [(0, aR 68 0), (1, aR 0 0), (2, aR 48 0), (3, aR 66 0), (4, aR 67 0), (5, aI (l5 + (nI 6))), (6, aI v4), (7, aI v7)]) (st' := []) (cs' := []) (fun _ => rfl) al0 ?_
      refine l_sg k334 1 (pc' := 28) (ls' := [(0, aR 68 0), (1, aR 0 0), (2, aR 48 0), (3, aR 66 0), (4, aR 67 0), (5, aI (l5 + (nI 6))), (6, aI v4), (7, aI v7)]) (st' := []) (cs' := []) (fun _ => rfl) al0 ?_
      refine l_ls [(0, aR 68 0), (1, aR 0 0), (2, aR 48 0), (3, aR 66 0), (4, aR 67 0), (5, aI (l5 + (nI 6)))] (lq_c rfl (lq_c rfl (lq_c rfl (lq_c rfl (lq_c rfl (lq_c rfl lq_n)))))) ?_
      obtain rfl := Option.some.inj h
      exact l_mono (hi _ _ rfl)
    · replace h := if_t c h
      refine l_sg k334 6 (pc' := 715) (ls' := [(0, aR 68 0), (1, aR 0 0), (2, aR 48 0), (3, aR 66 0), (4, aR 67 0), (5, aI l5), (6, aI v4), (7, aI v7)]) (st' := [aI (lg_cmp (gJ Y8.1 66 0 0) ((v7).toInt64))]) (cs' := [vp_in (nI 0) 1]) (fun _ => rfl) (al1 (vin rfl)) ?_
      refine l_if_eq k334 rfl (fun c => ?_) (fun c => ?_)
      · replace h := if_t c h
        refine l_sg k334 2 (pc' := 2736) (ls' := [(0, aR 68 0), (1, aR 0 0), (2, aR 48 0), (3, aR 66 0), (4, aR 67 0), (5, aI (l5 + (nI 6))), (6, aI v4), (7, aI v7)]) (st' := []) (cs' := []) (fun _ => rfl) al0 ?_
        refine l_sg k334 1 (pc' := 28) (ls' := [(0, aR 68 0), (1, aR 0 0), (2, aR 48 0), (3, aR 66 0), (4, aR 67 0), (5, aI (l5 + (nI 6))), (6, aI v4), (7, aI v7)]) (st' := []) (cs' := []) (fun _ => rfl) al0 ?_
        refine l_ls [(0, aR 68 0), (1, aR 0 0), (2, aR 48 0), (3, aR 66 0), (4, aR 67 0), (5, aI (l5 + (nI 6)))] (lq_c rfl (lq_c rfl (lq_c rfl (lq_c rfl (lq_c rfl (lq_c rfl lq_n)))))) ?_
        obtain rfl := Option.some.inj h
        exact l_mono (hi _ _ rfl)
      · replace h := if_f c h
        refine l_sg k334 1 (pc' := 719) (ls' := [(0, aR 68 0), (1, aR 0 0), (2, aR 48 0), (3, aR 66 0), (4, aR 67 0), (5, aI l5), (6, aI v4), (7, aI v7)]) (st' := [aI (nI 0)]) (cs' := []) (fun _ => rfl) al0 ?_
        obtain rfl := Option.some.inj h
        exact l_zreturn k334 (Or.inl rfl) (hr _ rfl)
  · replace h := if_f c h
    refine l_sg k334 1 (pc' := 702) (ls' := [(0, aR 68 0), (1, aR 0 0), (2, aR 48 0), (3, aR 66 0), (4, aR 67 0), (5, aI l5), (6, aI v4), (7, aI v7)]) (st' := [aI (nI 0)]) (cs' := []) (fun _ => rfl) al0 ?_
    obtain rfl := Option.some.inj h
    exact l_zreturn k334 (Or.inl rfl) (hr _ rfl)
def fn_334_J723 (L : Nat) (l5 : Int32) (Y : Sm) : Option ((Int32 × Sm) ⊕ (Int32 × Sm)) :=
  ck (inb (l5 + (nI 1)) L) <| ck (inb (l5 + (nI 2)) L) <| bd (fn_304 (gI Y.1 68 0 (ix (l5 + (nI 1)))) (gI Y.1 68 0 (ix (l5 + (nI 2)))) Y) fun v5 Y3 => bd (fn_235 (gI Y3.1 68 0 (ix (l5 + (nI 1)))) (gI Y3.1 68 0 (ix (l5 + (nI 2)))) Y3) fun v8 Y6 => bd (fn_163 Y6) fun v11 Y9 => (if v11 = v5 then (if v5 = (nI 0) then (if (lg_cmp (gJ Y9.1 66 0 0) ((v8).toInt64)) = (nI 0) then some (.inl ((l5 + (nI 6)), Y9)) else some (.inr ((nI 0), Y9))) else some (.inl ((l5 + (nI 6)), Y9))) else some (.inr ((nI 0), Y9)))
set_option maxRecDepth 20000 in
set_option maxHeartbeats 4000000 in
theorem sn_334_J723 {L B m : Nat} {l5 : Int32} {Y : Sm} {q : (Int32 × Sm) ⊕ (Int32 × Sm)} {P : Option Av → Sm → Prop} {E : Nat → Sm → Prop} (hi : ∀ i Z, q = .inl (i, Z) → Wl L 16 B m 28 [(0, aR 68 0), (1, aR 0 0), (2, aR 48 0), (3, aR 66 0), (4, aR 67 0), (5, aI i)] [] Z P E) (hr : ∀ o : Int32 × Sm, q = .inr o → P (some (aI o.1)) o.2) (h : fn_334_J723 L l5 Y = some q) : Wl L 16 B (m + 8) 723 [(0, aR 68 0), (1, aR 0 0), (2, aR 48 0), (3, aR 66 0), (4, aR 67 0), (5, aI l5)] [] Y P E := by
  unfold fn_334_J723 at h
  obtain ⟨hc1, h⟩ := ck_some h
  refine l_sg k334 8 (pc' := 733) (ls' := [(0, aR 68 0), (1, aR 0 0), (2, aR 48 0), (3, aR 66 0), (4, aR 67 0), (5, aI l5)]) (st' := [aI l5, aR 68 0, aI (gI Y.1 68 0 (ix (l5 + (nI 1)))), aR 0 0]) (cs' := [vp_in (l5 + (nI 1)) L]) (fun _ => rfl) (al1 (vin hc1)) ?_
  obtain ⟨hc2, h⟩ := ck_some h
  refine l_sg k334 4 (pc' := 737) (ls' := [(0, aR 68 0), (1, aR 0 0), (2, aR 48 0), (3, aR 66 0), (4, aR 67 0), (5, aI l5)]) (st' := [aR 66 0, aI (gI Y.1 68 0 (ix (l5 + (nI 2)))), aI (gI Y.1 68 0 (ix (l5 + (nI 1)))), aR 0 0]) (cs' := [vp_in (l5 + (nI 2)) L]) (fun _ => rfl) (al1 (vin hc2)) ?_
  obtain ⟨v5, Y3, hv4, h⟩ := bd_some h
  refine l_cS1 (n := m + 7) (b' := 1) k334 (sn_304 _ _ _ _ hv4) rfl (st := []) rfl ?_
  refine l_sg k334 1 (pc' := 742) (ls' := [(0, aR 68 0), (1, aR 0 0), (2, aR 48 0), (3, aR 66 0), (4, aR 67 0), (5, aI l5), (6, aI v5)]) (st' := []) (cs' := []) (fun _ => rfl) al0 ?_
  refine l_sg k334 8 (pc' := 752) (ls' := [(0, aR 68 0), (1, aR 0 0), (2, aR 48 0), (3, aR 66 0), (4, aR 67 0), (5, aI l5), (6, aI v5)]) (st' := [aI l5, aR 68 0, aI (gI Y3.1 68 0 (ix (l5 + (nI 1)))), aR 48 0]) (cs' := [vp_in (l5 + (nI 1)) L]) (fun _ => rfl) (al1 (vin hc1)) ?_
  refine l_sg k334 3 (pc' := 755) (ls' := [(0, aR 68 0), (1, aR 0 0), (2, aR 48 0), (3, aR 66 0), (4, aR 67 0), (5, aI l5), (6, aI v5)]) (st' := [aI (gI Y3.1 68 0 (ix (l5 + (nI 2)))), aI (gI Y3.1 68 0 (ix (l5 + (nI 1)))), aR 48 0]) (cs' := [vp_in (l5 + (nI 2)) L]) (fun _ => rfl) (al1 (vin hc2)) ?_
  obtain ⟨v8, Y6, hv7, h⟩ := bd_some h
  refine l_cV1 (n := m + 7) (b' := 0) k334 (sn_235 _ _ _ _ hv7) rfl (st := []) rfl ?_
  refine l_sg k334 1 (pc' := 760) (ls' := [(0, aR 68 0), (1, aR 0 0), (2, aR 48 0), (3, aR 66 0), (4, aR 67 0), (5, aI l5), (6, aI v5), (7, aI v8)]) (st' := []) (cs' := []) (fun _ => rfl) al0 ?_
  refine l_sg k334 1 (pc' := 761) (ls' := [(0, aR 68 0), (1, aR 0 0), (2, aR 48 0), (3, aR 66 0), (4, aR 67 0), (5, aI l5), (6, aI v5), (7, aI v8)]) (st' := [aR 48 0]) (cs' := []) (fun _ => rfl) al0 ?_
  obtain ⟨v11, Y9, hv10, h⟩ := bd_some h
  refine l_cV1 (n := m + 7) (b' := 0) k334 (sn_163  _ _ hv10) rfl (st := []) rfl ?_
  refine l_sg k334 1 (pc' := 766) (ls' := [(0, aR 68 0), (1, aR 0 0), (2, aR 48 0), (3, aR 66 0), (4, aR 67 0), (5, aI l5), (6, aI v5), (7, aI v8)]) (st' := [aI v5, aI v11]) (cs' := []) (fun _ => rfl) al0 ?_
  refine l_icmp_eq k334 rfl (fun c => ?_) (fun c => ?_)
  · replace h := if_t c h
    refine l_sg k334 1 (pc' := 773) (ls' := [(0, aR 68 0), (1, aR 0 0), (2, aR 48 0), (3, aR 66 0), (4, aR 67 0), (5, aI l5), (6, aI v5), (7, aI v8)]) (st' := [aI v5]) (cs' := []) (fun _ => rfl) al0 ?_
    refine l_if_ne k334 rfl (fun c => ?_) (fun c => ?_)
    · replace h := if_f c h
      refine l_sg k334 2 (pc' := 2736) (ls' := [(0, aR 68 0), (1, aR 0 0), (2, aR 48 0), (3, aR 66 0), (4, aR 67 0), (5, aI (l5 + (nI 6))), (6, aI v5), (7, aI v8)]) (st' := []) (cs' := []) (fun _ => rfl) al0 ?_
      refine l_sg k334 1 (pc' := 28) (ls' := [(0, aR 68 0), (1, aR 0 0), (2, aR 48 0), (3, aR 66 0), (4, aR 67 0), (5, aI (l5 + (nI 6))), (6, aI v5), (7, aI v8)]) (st' := []) (cs' := []) (fun _ => rfl) al0 ?_
      refine l_ls [(0, aR 68 0), (1, aR 0 0), (2, aR 48 0), (3, aR 66 0), (4, aR 67 0), (5, aI (l5 + (nI 6)))] (lq_c rfl (lq_c rfl (lq_c rfl (lq_c rfl (lq_c rfl (lq_c rfl lq_n)))))) ?_
      obtain rfl := Option.some.inj h
      exact l_mono (hi _ _ rfl)
    · replace h := if_t c h
      refine l_sg k334 6 (pc' := 783) (ls' := [(0, aR 68 0), (1, aR 0 0), (2, aR 48 0), (3, aR 66 0), (4, aR 67 0), (5, aI l5), (6, aI v5), (7, aI v8)]) (st' := [aI (lg_cmp (gJ Y9.1 66 0 0) ((v8).toInt64))]) (cs' := [vp_in (nI 0) 1]) (fun _ => rfl) (al1 (vin rfl)) ?_
      refine l_if_eq k334 rfl (fun c => ?_) (fun c => ?_)
      · replace h := if_t c h
        refine l_sg k334 2 (pc' := 2736) (ls' := [(0, aR 68 0), (1, aR 0 0), (2, aR 48 0), (3, aR 66 0), (4, aR 67 0), (5, aI (l5 + (nI 6))), (6, aI v5), (7, aI v8)]) (st' := []) (cs' := []) (fun _ => rfl) al0 ?_
        refine l_sg k334 1 (pc' := 28) (ls' := [(0, aR 68 0), (1, aR 0 0), (2, aR 48 0), (3, aR 66 0), (4, aR 67 0), (5, aI (l5 + (nI 6))), (6, aI v5), (7, aI v8)]) (st' := []) (cs' := []) (fun _ => rfl) al0 ?_
        refine l_ls [(0, aR 68 0), (1, aR 0 0), (2, aR 48 0), (3, aR 66 0), (4, aR 67 0), (5, aI (l5 + (nI 6)))] (lq_c rfl (lq_c rfl (lq_c rfl (lq_c rfl (lq_c rfl (lq_c rfl lq_n)))))) ?_
        obtain rfl := Option.some.inj h
        exact l_mono (hi _ _ rfl)
      · replace h := if_f c h
        refine l_sg k334 1 (pc' := 787) (ls' := [(0, aR 68 0), (1, aR 0 0), (2, aR 48 0), (3, aR 66 0), (4, aR 67 0), (5, aI l5), (6, aI v5), (7, aI v8)]) (st' := [aI (nI 0)]) (cs' := []) (fun _ => rfl) al0 ?_
        obtain rfl := Option.some.inj h
        exact l_zreturn k334 (Or.inl rfl) (hr _ rfl)
  · replace h := if_f c h
    refine l_sg k334 1 (pc' := 770) (ls' := [(0, aR 68 0), (1, aR 0 0), (2, aR 48 0), (3, aR 66 0), (4, aR 67 0), (5, aI l5), (6, aI v5), (7, aI v8)]) (st' := [aI (nI 0)]) (cs' := []) (fun _ => rfl) al0 ?_
    obtain rfl := Option.some.inj h
    exact l_zreturn k334 (Or.inl rfl) (hr _ rfl)
def fn_334_J791 (L : Nat) (l5 : Int32) (Y : Sm) : Option ((Int32 × Sm) ⊕ (Int32 × Sm)) :=
  ck (inb (l5 + (nI 1)) L) <| ck (inb (l5 + (nI 2)) L) <| bd (fn_305 (gI Y.1 68 0 (ix (l5 + (nI 1)))) (gI Y.1 68 0 (ix (l5 + (nI 2)))) Y) fun v5 Y3 => bd (fn_236 (gI Y3.1 68 0 (ix (l5 + (nI 1)))) (gI Y3.1 68 0 (ix (l5 + (nI 2)))) Y3) fun v8 Y6 => bd (fn_163 Y6) fun v11 Y9 => (if v11 = v5 then (if v5 = (nI 0) then (if (lg_cmp (gJ Y9.1 66 0 0) ((v8).toInt64)) = (nI 0) then some (.inl ((l5 + (nI 6)), Y9)) else some (.inr ((nI 0), Y9))) else some (.inl ((l5 + (nI 6)), Y9))) else some (.inr ((nI 0), Y9)))
set_option maxRecDepth 20000 in
set_option maxHeartbeats 4000000 in
theorem sn_334_J791 {L B m : Nat} {l5 : Int32} {Y : Sm} {q : (Int32 × Sm) ⊕ (Int32 × Sm)} {P : Option Av → Sm → Prop} {E : Nat → Sm → Prop} (hi : ∀ i Z, q = .inl (i, Z) → Wl L 16 B m 28 [(0, aR 68 0), (1, aR 0 0), (2, aR 48 0), (3, aR 66 0), (4, aR 67 0), (5, aI i)] [] Z P E) (hr : ∀ o : Int32 × Sm, q = .inr o → P (some (aI o.1)) o.2) (h : fn_334_J791 L l5 Y = some q) : Wl L 16 B (m + 8) 791 [(0, aR 68 0), (1, aR 0 0), (2, aR 48 0), (3, aR 66 0), (4, aR 67 0), (5, aI l5)] [] Y P E := by
  unfold fn_334_J791 at h
  obtain ⟨hc1, h⟩ := ck_some h
  refine l_sg k334 8 (pc' := 801) (ls' := [(0, aR 68 0), (1, aR 0 0), (2, aR 48 0), (3, aR 66 0), (4, aR 67 0), (5, aI l5)]) (st' := [aI l5, aR 68 0, aI (gI Y.1 68 0 (ix (l5 + (nI 1)))), aR 0 0]) (cs' := [vp_in (l5 + (nI 1)) L]) (fun _ => rfl) (al1 (vin hc1)) ?_
  obtain ⟨hc2, h⟩ := ck_some h
  refine l_sg k334 4 (pc' := 805) (ls' := [(0, aR 68 0), (1, aR 0 0), (2, aR 48 0), (3, aR 66 0), (4, aR 67 0), (5, aI l5)]) (st' := [aR 66 0, aI (gI Y.1 68 0 (ix (l5 + (nI 2)))), aI (gI Y.1 68 0 (ix (l5 + (nI 1)))), aR 0 0]) (cs' := [vp_in (l5 + (nI 2)) L]) (fun _ => rfl) (al1 (vin hc2)) ?_
  obtain ⟨v5, Y3, hv4, h⟩ := bd_some h
  refine l_cS1 (n := m + 6) (b' := 2) k334 (sn_305 _ _ _ _ hv4) rfl (st := []) rfl ?_
  refine l_sg k334 1 (pc' := 810) (ls' := [(0, aR 68 0), (1, aR 0 0), (2, aR 48 0), (3, aR 66 0), (4, aR 67 0), (5, aI l5), (6, aI v5)]) (st' := []) (cs' := []) (fun _ => rfl) al0 ?_
  refine l_sg k334 8 (pc' := 820) (ls' := [(0, aR 68 0), (1, aR 0 0), (2, aR 48 0), (3, aR 66 0), (4, aR 67 0), (5, aI l5), (6, aI v5)]) (st' := [aI l5, aR 68 0, aI (gI Y3.1 68 0 (ix (l5 + (nI 1)))), aR 48 0]) (cs' := [vp_in (l5 + (nI 1)) L]) (fun _ => rfl) (al1 (vin hc1)) ?_
  refine l_sg k334 3 (pc' := 823) (ls' := [(0, aR 68 0), (1, aR 0 0), (2, aR 48 0), (3, aR 66 0), (4, aR 67 0), (5, aI l5), (6, aI v5)]) (st' := [aI (gI Y3.1 68 0 (ix (l5 + (nI 2)))), aI (gI Y3.1 68 0 (ix (l5 + (nI 1)))), aR 48 0]) (cs' := [vp_in (l5 + (nI 2)) L]) (fun _ => rfl) (al1 (vin hc2)) ?_
  obtain ⟨v8, Y6, hv7, h⟩ := bd_some h
  refine l_cV1 (n := m + 6) (b' := 0) k334 (sn_236 _ _ _ _ hv7) rfl (st := []) rfl ?_
  refine l_sg k334 1 (pc' := 828) (ls' := [(0, aR 68 0), (1, aR 0 0), (2, aR 48 0), (3, aR 66 0), (4, aR 67 0), (5, aI l5), (6, aI v5), (7, aI v8)]) (st' := []) (cs' := []) (fun _ => rfl) al0 ?_
  refine l_sg k334 1 (pc' := 829) (ls' := [(0, aR 68 0), (1, aR 0 0), (2, aR 48 0), (3, aR 66 0), (4, aR 67 0), (5, aI l5), (6, aI v5), (7, aI v8)]) (st' := [aR 48 0]) (cs' := []) (fun _ => rfl) al0 ?_
  obtain ⟨v11, Y9, hv10, h⟩ := bd_some h
  refine l_cV1 (n := m + 6) (b' := 0) k334 (sn_163  _ _ hv10) rfl (st := []) rfl ?_
  refine l_sg k334 1 (pc' := 834) (ls' := [(0, aR 68 0), (1, aR 0 0), (2, aR 48 0), (3, aR 66 0), (4, aR 67 0), (5, aI l5), (6, aI v5), (7, aI v8)]) (st' := [aI v5, aI v11]) (cs' := []) (fun _ => rfl) al0 ?_
  refine l_icmp_eq k334 rfl (fun c => ?_) (fun c => ?_)
  · replace h := if_t c h
    refine l_sg k334 1 (pc' := 841) (ls' := [(0, aR 68 0), (1, aR 0 0), (2, aR 48 0), (3, aR 66 0), (4, aR 67 0), (5, aI l5), (6, aI v5), (7, aI v8)]) (st' := [aI v5]) (cs' := []) (fun _ => rfl) al0 ?_
    refine l_if_ne k334 rfl (fun c => ?_) (fun c => ?_)
    · replace h := if_f c h
      refine l_sg k334 2 (pc' := 2736) (ls' := [(0, aR 68 0), (1, aR 0 0), (2, aR 48 0), (3, aR 66 0), (4, aR 67 0), (5, aI (l5 + (nI 6))), (6, aI v5), (7, aI v8)]) (st' := []) (cs' := []) (fun _ => rfl) al0 ?_
      refine l_sg k334 1 (pc' := 28) (ls' := [(0, aR 68 0), (1, aR 0 0), (2, aR 48 0), (3, aR 66 0), (4, aR 67 0), (5, aI (l5 + (nI 6))), (6, aI v5), (7, aI v8)]) (st' := []) (cs' := []) (fun _ => rfl) al0 ?_
      refine l_ls [(0, aR 68 0), (1, aR 0 0), (2, aR 48 0), (3, aR 66 0), (4, aR 67 0), (5, aI (l5 + (nI 6)))] (lq_c rfl (lq_c rfl (lq_c rfl (lq_c rfl (lq_c rfl (lq_c rfl lq_n)))))) ?_
      obtain rfl := Option.some.inj h
      exact l_mono (hi _ _ rfl)
    · replace h := if_t c h
      refine l_sg k334 6 (pc' := 851) (ls' := [(0, aR 68 0), (1, aR 0 0), (2, aR 48 0), (3, aR 66 0), (4, aR 67 0), (5, aI l5), (6, aI v5), (7, aI v8)]) (st' := [aI (lg_cmp (gJ Y9.1 66 0 0) ((v8).toInt64))]) (cs' := [vp_in (nI 0) 1]) (fun _ => rfl) (al1 (vin rfl)) ?_
      refine l_if_eq k334 rfl (fun c => ?_) (fun c => ?_)
      · replace h := if_t c h
        refine l_sg k334 2 (pc' := 2736) (ls' := [(0, aR 68 0), (1, aR 0 0), (2, aR 48 0), (3, aR 66 0), (4, aR 67 0), (5, aI (l5 + (nI 6))), (6, aI v5), (7, aI v8)]) (st' := []) (cs' := []) (fun _ => rfl) al0 ?_
        refine l_sg k334 1 (pc' := 28) (ls' := [(0, aR 68 0), (1, aR 0 0), (2, aR 48 0), (3, aR 66 0), (4, aR 67 0), (5, aI (l5 + (nI 6))), (6, aI v5), (7, aI v8)]) (st' := []) (cs' := []) (fun _ => rfl) al0 ?_
        refine l_ls [(0, aR 68 0), (1, aR 0 0), (2, aR 48 0), (3, aR 66 0), (4, aR 67 0), (5, aI (l5 + (nI 6)))] (lq_c rfl (lq_c rfl (lq_c rfl (lq_c rfl (lq_c rfl (lq_c rfl lq_n)))))) ?_
        obtain rfl := Option.some.inj h
        exact l_mono (hi _ _ rfl)
      · replace h := if_f c h
        refine l_sg k334 1 (pc' := 855) (ls' := [(0, aR 68 0), (1, aR 0 0), (2, aR 48 0), (3, aR 66 0), (4, aR 67 0), (5, aI l5), (6, aI v5), (7, aI v8)]) (st' := [aI (nI 0)]) (cs' := []) (fun _ => rfl) al0 ?_
        obtain rfl := Option.some.inj h
        exact l_zreturn k334 (Or.inl rfl) (hr _ rfl)
  · replace h := if_f c h
    refine l_sg k334 1 (pc' := 838) (ls' := [(0, aR 68 0), (1, aR 0 0), (2, aR 48 0), (3, aR 66 0), (4, aR 67 0), (5, aI l5), (6, aI v5), (7, aI v8)]) (st' := [aI (nI 0)]) (cs' := []) (fun _ => rfl) al0 ?_
    obtain rfl := Option.some.inj h
    exact l_zreturn k334 (Or.inl rfl) (hr _ rfl)
def fn_334_J859 (L : Nat) (l5 : Int32) (Y : Sm) : Option ((Int32 × Sm) ⊕ (Int32 × Sm)) :=
  bd (fn_117 Y) fun v3 Y1 => bd (fn_237 Y1) fun v6 Y4 => (if v3 = v6 then some (.inl ((l5 + (nI 6)), Y4)) else some (.inr ((nI 0), Y4)))
set_option maxRecDepth 20000 in
set_option maxHeartbeats 4000000 in
theorem sn_334_J859 {L B m : Nat} {l5 : Int32} {Y : Sm} {q : (Int32 × Sm) ⊕ (Int32 × Sm)} {P : Option Av → Sm → Prop} {E : Nat → Sm → Prop} (hi : ∀ i Z, q = .inl (i, Z) → Wl L 16 B m 28 [(0, aR 68 0), (1, aR 0 0), (2, aR 48 0), (3, aR 66 0), (4, aR 67 0), (5, aI i)] [] Z P E) (hr : ∀ o : Int32 × Sm, q = .inr o → P (some (aI o.1)) o.2) (h : fn_334_J859 L l5 Y = some q) : Wl L 16 B (m + 8) 859 [(0, aR 68 0), (1, aR 0 0), (2, aR 48 0), (3, aR 66 0), (4, aR 67 0), (5, aI l5)] [] Y P E := by
  unfold fn_334_J859 at h
  refine l_sg k334 1 (pc' := 860) (ls' := [(0, aR 68 0), (1, aR 0 0), (2, aR 48 0), (3, aR 66 0), (4, aR 67 0), (5, aI l5)]) (st' := [aR 0 0]) (cs' := []) (fun _ => rfl) al0 ?_
  obtain ⟨v3, Y1, hv2, h⟩ := bd_some h
  refine l_cV1 (n := m + 8) (b' := 0) k334 (sn_117  _ _ hv2) rfl (st := []) rfl ?_
  refine l_sg k334 1 (pc' := 864) (ls' := [(0, aR 68 0), (1, aR 0 0), (2, aR 48 0), (3, aR 66 0), (4, aR 67 0), (5, aI l5)]) (st' := [aR 48 0, aI v3]) (cs' := []) (fun _ => rfl) al0 ?_
  obtain ⟨v6, Y4, hv5, h⟩ := bd_some h
  refine l_cV1 (n := m + 8) (b' := 0) k334 (sn_237  _ _ hv5) rfl (st := [aI v3]) rfl ?_
  refine l_icmp_eq k334 rfl (fun c => ?_) (fun c => ?_)
  · replace h := if_t c h
    refine l_sg k334 1 (pc' := 2736) (ls' := [(0, aR 68 0), (1, aR 0 0), (2, aR 48 0), (3, aR 66 0), (4, aR 67 0), (5, aI (l5 + (nI 6)))]) (st' := []) (cs' := []) (fun _ => rfl) al0 ?_
    refine l_sg k334 1 (pc' := 28) (ls' := [(0, aR 68 0), (1, aR 0 0), (2, aR 48 0), (3, aR 66 0), (4, aR 67 0), (5, aI (l5 + (nI 6)))]) (st' := []) (cs' := []) (fun _ => rfl) al0 ?_
    refine l_ls [(0, aR 68 0), (1, aR 0 0), (2, aR 48 0), (3, aR 66 0), (4, aR 67 0), (5, aI (l5 + (nI 6)))] (lq_c rfl (lq_c rfl (lq_c rfl (lq_c rfl (lq_c rfl (lq_c rfl lq_n)))))) ?_
    obtain rfl := Option.some.inj h
    exact l_mono (hi _ _ rfl)
  · replace h := if_f c h
    refine l_sg k334 1 (pc' := 871) (ls' := [(0, aR 68 0), (1, aR 0 0), (2, aR 48 0), (3, aR 66 0), (4, aR 67 0), (5, aI l5)]) (st' := [aI (nI 0)]) (cs' := []) (fun _ => rfl) al0 ?_
    obtain rfl := Option.some.inj h
    exact l_zreturn k334 (Or.inl rfl) (hr _ rfl)
def fn_334_J872 (L : Nat) (l5 : Int32) (Y : Sm) : Option ((Int32 × Sm) ⊕ (Int32 × Sm)) :=
  ck (inb (l5 + (nI 1)) L) <| ck (inb (l5 + (nI 2)) L) <| bd (fn_306 (gI Y.1 68 0 (ix (l5 + (nI 1)))) (gI Y.1 68 0 (ix (l5 + (nI 2)))) Y) fun v5 Y3 => bd (fn_238 (gI Y3.1 68 0 (ix (l5 + (nI 1)))) (gI Y3.1 68 0 (ix (l5 + (nI 2)))) Y3) fun v8 Y6 => bd (fn_163 Y6) fun v11 Y9 => (if v11 = v5 then (if v5 = (nI 0) then (if (lg_cmp (gJ Y9.1 66 0 0) ((v8).toInt64)) = (nI 0) then some (.inl ((l5 + (nI 6)), Y9)) else some (.inr ((nI 0), Y9))) else some (.inl ((l5 + (nI 6)), Y9))) else some (.inr ((nI 0), Y9)))
set_option maxRecDepth 20000 in
set_option maxHeartbeats 4000000 in
theorem sn_334_J872 {L B m : Nat} {l5 : Int32} {Y : Sm} {q : (Int32 × Sm) ⊕ (Int32 × Sm)} {P : Option Av → Sm → Prop} {E : Nat → Sm → Prop} (hi : ∀ i Z, q = .inl (i, Z) → Wl L 16 B m 28 [(0, aR 68 0), (1, aR 0 0), (2, aR 48 0), (3, aR 66 0), (4, aR 67 0), (5, aI i)] [] Z P E) (hr : ∀ o : Int32 × Sm, q = .inr o → P (some (aI o.1)) o.2) (h : fn_334_J872 L l5 Y = some q) : Wl L 16 B (m + 8) 872 [(0, aR 68 0), (1, aR 0 0), (2, aR 48 0), (3, aR 66 0), (4, aR 67 0), (5, aI l5)] [] Y P E := by
  unfold fn_334_J872 at h
  obtain ⟨hc1, h⟩ := ck_some h
  refine l_sg k334 8 (pc' := 882) (ls' := [(0, aR 68 0), (1, aR 0 0), (2, aR 48 0), (3, aR 66 0), (4, aR 67 0), (5, aI l5)]) (st' := [aI l5, aR 68 0, aI (gI Y.1 68 0 (ix (l5 + (nI 1)))), aR 0 0]) (cs' := [vp_in (l5 + (nI 1)) L]) (fun _ => rfl) (al1 (vin hc1)) ?_
  obtain ⟨hc2, h⟩ := ck_some h
  refine l_sg k334 4 (pc' := 886) (ls' := [(0, aR 68 0), (1, aR 0 0), (2, aR 48 0), (3, aR 66 0), (4, aR 67 0), (5, aI l5)]) (st' := [aR 66 0, aI (gI Y.1 68 0 (ix (l5 + (nI 2)))), aI (gI Y.1 68 0 (ix (l5 + (nI 1)))), aR 0 0]) (cs' := [vp_in (l5 + (nI 2)) L]) (fun _ => rfl) (al1 (vin hc2)) ?_
  obtain ⟨v5, Y3, hv4, h⟩ := bd_some h
  refine l_cS1 (n := m + 7) (b' := 1) k334 (sn_306 _ _ _ _ hv4) rfl (st := []) rfl ?_
  refine l_sg k334 1 (pc' := 891) (ls' := [(0, aR 68 0), (1, aR 0 0), (2, aR 48 0), (3, aR 66 0), (4, aR 67 0), (5, aI l5), (6, aI v5)]) (st' := []) (cs' := []) (fun _ => rfl) al0 ?_
  refine l_sg k334 8 (pc' := 901) (ls' := [(0, aR 68 0), (1, aR 0 0), (2, aR 48 0), (3, aR 66 0), (4, aR 67 0), (5, aI l5), (6, aI v5)]) (st' := [aI l5, aR 68 0, aI (gI Y3.1 68 0 (ix (l5 + (nI 1)))), aR 48 0]) (cs' := [vp_in (l5 + (nI 1)) L]) (fun _ => rfl) (al1 (vin hc1)) ?_
  refine l_sg k334 3 (pc' := 904) (ls' := [(0, aR 68 0), (1, aR 0 0), (2, aR 48 0), (3, aR 66 0), (4, aR 67 0), (5, aI l5), (6, aI v5)]) (st' := [aI (gI Y3.1 68 0 (ix (l5 + (nI 2)))), aI (gI Y3.1 68 0 (ix (l5 + (nI 1)))), aR 48 0]) (cs' := [vp_in (l5 + (nI 2)) L]) (fun _ => rfl) (al1 (vin hc2)) ?_
  obtain ⟨v8, Y6, hv7, h⟩ := bd_some h
  refine l_cV1 (n := m + 7) (b' := 0) k334 (sn_238 _ _ _ _ hv7) rfl (st := []) rfl ?_
  refine l_sg k334 1 (pc' := 909) (ls' := [(0, aR 68 0), (1, aR 0 0), (2, aR 48 0), (3, aR 66 0), (4, aR 67 0), (5, aI l5), (6, aI v5), (7, aI v8)]) (st' := []) (cs' := []) (fun _ => rfl) al0 ?_
  refine l_sg k334 1 (pc' := 910) (ls' := [(0, aR 68 0), (1, aR 0 0), (2, aR 48 0), (3, aR 66 0), (4, aR 67 0), (5, aI l5), (6, aI v5), (7, aI v8)]) (st' := [aR 48 0]) (cs' := []) (fun _ => rfl) al0 ?_
  obtain ⟨v11, Y9, hv10, h⟩ := bd_some h
  refine l_cV1 (n := m + 7) (b' := 0) k334 (sn_163  _ _ hv10) rfl (st := []) rfl ?_
  refine l_sg k334 1 (pc' := 915) (ls' := [(0, aR 68 0), (1, aR 0 0), (2, aR 48 0), (3, aR 66 0), (4, aR 67 0), (5, aI l5), (6, aI v5), (7, aI v8)]) (st' := [aI v5, aI v11]) (cs' := []) (fun _ => rfl) al0 ?_
  refine l_icmp_eq k334 rfl (fun c => ?_) (fun c => ?_)
  · replace h := if_t c h
    refine l_sg k334 1 (pc' := 922) (ls' := [(0, aR 68 0), (1, aR 0 0), (2, aR 48 0), (3, aR 66 0), (4, aR 67 0), (5, aI l5), (6, aI v5), (7, aI v8)]) (st' := [aI v5]) (cs' := []) (fun _ => rfl) al0 ?_
    refine l_if_ne k334 rfl (fun c => ?_) (fun c => ?_)
    · replace h := if_f c h
      refine l_sg k334 2 (pc' := 2736) (ls' := [(0, aR 68 0), (1, aR 0 0), (2, aR 48 0), (3, aR 66 0), (4, aR 67 0), (5, aI (l5 + (nI 6))), (6, aI v5), (7, aI v8)]) (st' := []) (cs' := []) (fun _ => rfl) al0 ?_
      refine l_sg k334 1 (pc' := 28) (ls' := [(0, aR 68 0), (1, aR 0 0), (2, aR 48 0), (3, aR 66 0), (4, aR 67 0), (5, aI (l5 + (nI 6))), (6, aI v5), (7, aI v8)]) (st' := []) (cs' := []) (fun _ => rfl) al0 ?_
      refine l_ls [(0, aR 68 0), (1, aR 0 0), (2, aR 48 0), (3, aR 66 0), (4, aR 67 0), (5, aI (l5 + (nI 6)))] (lq_c rfl (lq_c rfl (lq_c rfl (lq_c rfl (lq_c rfl (lq_c rfl lq_n)))))) ?_
      obtain rfl := Option.some.inj h
      exact l_mono (hi _ _ rfl)
    · replace h := if_t c h
      refine l_sg k334 6 (pc' := 932) (ls' := [(0, aR 68 0), (1, aR 0 0), (2, aR 48 0), (3, aR 66 0), (4, aR 67 0), (5, aI l5), (6, aI v5), (7, aI v8)]) (st' := [aI (lg_cmp (gJ Y9.1 66 0 0) ((v8).toInt64))]) (cs' := [vp_in (nI 0) 1]) (fun _ => rfl) (al1 (vin rfl)) ?_
      refine l_if_eq k334 rfl (fun c => ?_) (fun c => ?_)
      · replace h := if_t c h
        refine l_sg k334 2 (pc' := 2736) (ls' := [(0, aR 68 0), (1, aR 0 0), (2, aR 48 0), (3, aR 66 0), (4, aR 67 0), (5, aI (l5 + (nI 6))), (6, aI v5), (7, aI v8)]) (st' := []) (cs' := []) (fun _ => rfl) al0 ?_
        refine l_sg k334 1 (pc' := 28) (ls' := [(0, aR 68 0), (1, aR 0 0), (2, aR 48 0), (3, aR 66 0), (4, aR 67 0), (5, aI (l5 + (nI 6))), (6, aI v5), (7, aI v8)]) (st' := []) (cs' := []) (fun _ => rfl) al0 ?_
        refine l_ls [(0, aR 68 0), (1, aR 0 0), (2, aR 48 0), (3, aR 66 0), (4, aR 67 0), (5, aI (l5 + (nI 6)))] (lq_c rfl (lq_c rfl (lq_c rfl (lq_c rfl (lq_c rfl (lq_c rfl lq_n)))))) ?_
        obtain rfl := Option.some.inj h
        exact l_mono (hi _ _ rfl)
      · replace h := if_f c h
        refine l_sg k334 1 (pc' := 936) (ls' := [(0, aR 68 0), (1, aR 0 0), (2, aR 48 0), (3, aR 66 0), (4, aR 67 0), (5, aI l5), (6, aI v5), (7, aI v8)]) (st' := [aI (nI 0)]) (cs' := []) (fun _ => rfl) al0 ?_
        obtain rfl := Option.some.inj h
        exact l_zreturn k334 (Or.inl rfl) (hr _ rfl)
  · replace h := if_f c h
    refine l_sg k334 1 (pc' := 919) (ls' := [(0, aR 68 0), (1, aR 0 0), (2, aR 48 0), (3, aR 66 0), (4, aR 67 0), (5, aI l5), (6, aI v5), (7, aI v8)]) (st' := [aI (nI 0)]) (cs' := []) (fun _ => rfl) al0 ?_
    obtain rfl := Option.some.inj h
    exact l_zreturn k334 (Or.inl rfl) (hr _ rfl)
def fn_334_J940 (L : Nat) (l5 : Int32) (Y : Sm) : Option ((Int32 × Sm) ⊕ (Int32 × Sm)) :=
  ck (inb (l5 + (nI 1)) L) <| bd (fn_307 (gI Y.1 68 0 (ix (l5 + (nI 1)))) Y) fun v4 Y2 => bd (fn_239 (gI Y2.1 68 0 (ix (l5 + (nI 1)))) Y2) fun v7 Y5 => bd (fn_163 Y5) fun v10 Y8 => (if v10 = v4 then (if v4 = (nI 0) then (if (lg_cmp (gJ Y8.1 66 0 0) ((v7).toInt64)) = (nI 0) then some (.inl ((l5 + (nI 6)), Y8)) else some (.inr ((nI 0), Y8))) else some (.inl ((l5 + (nI 6)), Y8))) else some (.inr ((nI 0), Y8)))
set_option maxRecDepth 20000 in
set_option maxHeartbeats 4000000 in
theorem sn_334_J940 {L B m : Nat} {l5 : Int32} {Y : Sm} {q : (Int32 × Sm) ⊕ (Int32 × Sm)} {P : Option Av → Sm → Prop} {E : Nat → Sm → Prop} (hi : ∀ i Z, q = .inl (i, Z) → Wl L 16 B m 28 [(0, aR 68 0), (1, aR 0 0), (2, aR 48 0), (3, aR 66 0), (4, aR 67 0), (5, aI i)] [] Z P E) (hr : ∀ o : Int32 × Sm, q = .inr o → P (some (aI o.1)) o.2) (h : fn_334_J940 L l5 Y = some q) : Wl L 16 B (m + 8) 940 [(0, aR 68 0), (1, aR 0 0), (2, aR 48 0), (3, aR 66 0), (4, aR 67 0), (5, aI l5)] [] Y P E := by
  unfold fn_334_J940 at h
  obtain ⟨hc1, h⟩ := ck_some h
  refine l_sg k334 7 (pc' := 948) (ls' := [(0, aR 68 0), (1, aR 0 0), (2, aR 48 0), (3, aR 66 0), (4, aR 67 0), (5, aI l5)]) (st' := [aR 66 0, aI (gI Y.1 68 0 (ix (l5 + (nI 1)))), aR 0 0]) (cs' := [vp_in (l5 + (nI 1)) L]) (fun _ => rfl) (al1 (vin hc1)) ?_
  obtain ⟨v4, Y2, hv3, h⟩ := bd_some h
  refine l_cS1 (n := m + 7) (b' := 1) k334 (sn_307 _ _ _ hv3) rfl (st := []) rfl ?_
  refine l_sg k334 1 (pc' := 953) (ls' := [(0, aR 68 0), (1, aR 0 0), (2, aR 48 0), (3, aR 66 0), (4, aR 67 0), (5, aI l5), (6, aI v4)]) (st' := []) (cs' := []) (fun _ => rfl) al0 ?_
  refine l_sg k334 6 (pc' := 960) (ls' := [(0, aR 68 0), (1, aR 0 0), (2, aR 48 0), (3, aR 66 0), (4, aR 67 0), (5, aI l5), (6, aI v4)]) (st' := [aI (gI Y2.1 68 0 (ix (l5 + (nI 1)))), aR 48 0]) (cs' := [vp_in (l5 + (nI 1)) L]) (fun _ => rfl) (al1 (vin hc1)) ?_
  obtain ⟨v7, Y5, hv6, h⟩ := bd_some h
  refine l_cV1 (n := m + 7) (b' := 0) k334 (sn_239 _ _ _ hv6) rfl (st := []) rfl ?_
  refine l_sg k334 1 (pc' := 965) (ls' := [(0, aR 68 0), (1, aR 0 0), (2, aR 48 0), (3, aR 66 0), (4, aR 67 0), (5, aI l5), (6, aI v4), (7, aI v7)]) (st' := []) (cs' := []) (fun _ => rfl) al0 ?_
  refine l_sg k334 1 (pc' := 966) (ls' := [(0, aR 68 0), (1, aR 0 0), (2, aR 48 0), (3, aR 66 0), (4, aR 67 0), (5, aI l5), (6, aI v4), (7, aI v7)]) (st' := [aR 48 0]) (cs' := []) (fun _ => rfl) al0 ?_
  obtain ⟨v10, Y8, hv9, h⟩ := bd_some h
  refine l_cV1 (n := m + 7) (b' := 0) k334 (sn_163  _ _ hv9) rfl (st := []) rfl ?_
  refine l_sg k334 1 (pc' := 971) (ls' := [(0, aR 68 0), (1, aR 0 0), (2, aR 48 0), (3, aR 66 0), (4, aR 67 0), (5, aI l5), (6, aI v4), (7, aI v7)]) (st' := [aI v4, aI v10]) (cs' := []) (fun _ => rfl) al0 ?_
  refine l_icmp_eq k334 rfl (fun c => ?_) (fun c => ?_)
  · replace h := if_t c h
    refine l_sg k334 1 (pc' := 978) (ls' := [(0, aR 68 0), (1, aR 0 0), (2, aR 48 0), (3, aR 66 0), (4, aR 67 0), (5, aI l5), (6, aI v4), (7, aI v7)]) (st' := [aI v4]) (cs' := []) (fun _ => rfl) al0 ?_
    refine l_if_ne k334 rfl (fun c => ?_) (fun c => ?_)
    · replace h := if_f c h
      refine l_sg k334 2 (pc' := 2736) (ls' := [(0, aR 68 0), (1, aR 0 0), (2, aR 48 0), (3, aR 66 0), (4, aR 67 0), (5, aI (l5 + (nI 6))), (6, aI v4), (7, aI v7)]) (st' := []) (cs' := []) (fun _ => rfl) al0 ?_
      refine l_sg k334 1 (pc' := 28) (ls' := [(0, aR 68 0), (1, aR 0 0), (2, aR 48 0), (3, aR 66 0), (4, aR 67 0), (5, aI (l5 + (nI 6))), (6, aI v4), (7, aI v7)]) (st' := []) (cs' := []) (fun _ => rfl) al0 ?_
      refine l_ls [(0, aR 68 0), (1, aR 0 0), (2, aR 48 0), (3, aR 66 0), (4, aR 67 0), (5, aI (l5 + (nI 6)))] (lq_c rfl (lq_c rfl (lq_c rfl (lq_c rfl (lq_c rfl (lq_c rfl lq_n)))))) ?_
      obtain rfl := Option.some.inj h
      exact l_mono (hi _ _ rfl)
    · replace h := if_t c h
      refine l_sg k334 6 (pc' := 988) (ls' := [(0, aR 68 0), (1, aR 0 0), (2, aR 48 0), (3, aR 66 0), (4, aR 67 0), (5, aI l5), (6, aI v4), (7, aI v7)]) (st' := [aI (lg_cmp (gJ Y8.1 66 0 0) ((v7).toInt64))]) (cs' := [vp_in (nI 0) 1]) (fun _ => rfl) (al1 (vin rfl)) ?_
      refine l_if_eq k334 rfl (fun c => ?_) (fun c => ?_)
      · replace h := if_t c h
        refine l_sg k334 2 (pc' := 2736) (ls' := [(0, aR 68 0), (1, aR 0 0), (2, aR 48 0), (3, aR 66 0), (4, aR 67 0), (5, aI (l5 + (nI 6))), (6, aI v4), (7, aI v7)]) (st' := []) (cs' := []) (fun _ => rfl) al0 ?_
        refine l_sg k334 1 (pc' := 28) (ls' := [(0, aR 68 0), (1, aR 0 0), (2, aR 48 0), (3, aR 66 0), (4, aR 67 0), (5, aI (l5 + (nI 6))), (6, aI v4), (7, aI v7)]) (st' := []) (cs' := []) (fun _ => rfl) al0 ?_
        refine l_ls [(0, aR 68 0), (1, aR 0 0), (2, aR 48 0), (3, aR 66 0), (4, aR 67 0), (5, aI (l5 + (nI 6)))] (lq_c rfl (lq_c rfl (lq_c rfl (lq_c rfl (lq_c rfl (lq_c rfl lq_n)))))) ?_
        obtain rfl := Option.some.inj h
        exact l_mono (hi _ _ rfl)
      · replace h := if_f c h
        refine l_sg k334 1 (pc' := 992) (ls' := [(0, aR 68 0), (1, aR 0 0), (2, aR 48 0), (3, aR 66 0), (4, aR 67 0), (5, aI l5), (6, aI v4), (7, aI v7)]) (st' := [aI (nI 0)]) (cs' := []) (fun _ => rfl) al0 ?_
        obtain rfl := Option.some.inj h
        exact l_zreturn k334 (Or.inl rfl) (hr _ rfl)
  · replace h := if_f c h
    refine l_sg k334 1 (pc' := 975) (ls' := [(0, aR 68 0), (1, aR 0 0), (2, aR 48 0), (3, aR 66 0), (4, aR 67 0), (5, aI l5), (6, aI v4), (7, aI v7)]) (st' := [aI (nI 0)]) (cs' := []) (fun _ => rfl) al0 ?_
    obtain rfl := Option.some.inj h
    exact l_zreturn k334 (Or.inl rfl) (hr _ rfl)
def fn_334_J996 (L : Nat) (l5 : Int32) (Y : Sm) : Option ((Int32 × Sm) ⊕ (Int32 × Sm)) :=
  ck (inb (l5 + (nI 1)) L) <| ck (inb (l5 + (nI 2)) L) <| bd (fn_308 (gI Y.1 68 0 (ix (l5 + (nI 1)))) (gI Y.1 68 0 (ix (l5 + (nI 2)))) Y) fun v5 Y3 => bd (fn_240 (gI Y3.1 68 0 (ix (l5 + (nI 1)))) (gI Y3.1 68 0 (ix (l5 + (nI 2)))) Y3) fun v8 Y6 => bd (fn_163 Y6) fun v11 Y9 => (if v11 = v5 then (if v5 = (nI 0) then (if (lg_cmp (gJ Y9.1 66 0 0) ((v8).toInt64)) = (nI 0) then some (.inl ((l5 + (nI 6)), Y9)) else some (.inr ((nI 0), Y9))) else some (.inl ((l5 + (nI 6)), Y9))) else some (.inr ((nI 0), Y9)))
set_option maxRecDepth 20000 in
set_option maxHeartbeats 4000000 in
theorem sn_334_J996 {L B m : Nat} {l5 : Int32} {Y : Sm} {q : (Int32 × Sm) ⊕ (Int32 × Sm)} {P : Option Av → Sm → Prop} {E : Nat → Sm → Prop} (hi : ∀ i Z, q = .inl (i, Z) → Wl L 16 B m 28 [(0, aR 68 0), (1, aR 0 0), (2, aR 48 0), (3, aR 66 0), (4, aR 67 0), (5, aI i)] [] Z P E) (hr : ∀ o : Int32 × Sm, q = .inr o → P (some (aI o.1)) o.2) (h : fn_334_J996 L l5 Y = some q) : Wl L 16 B (m + 8) 996 [(0, aR 68 0), (1, aR 0 0), (2, aR 48 0), (3, aR 66 0), (4, aR 67 0), (5, aI l5)] [] Y P E := by
  unfold fn_334_J996 at h
  obtain ⟨hc1, h⟩ := ck_some h
  refine l_sg k334 8 (pc' := 1006) (ls' := [(0, aR 68 0), (1, aR 0 0), (2, aR 48 0), (3, aR 66 0), (4, aR 67 0), (5, aI l5)]) (st' := [aI l5, aR 68 0, aI (gI Y.1 68 0 (ix (l5 + (nI 1)))), aR 0 0]) (cs' := [vp_in (l5 + (nI 1)) L]) (fun _ => rfl) (al1 (vin hc1)) ?_
  obtain ⟨hc2, h⟩ := ck_some h
  refine l_sg k334 4 (pc' := 1010) (ls' := [(0, aR 68 0), (1, aR 0 0), (2, aR 48 0), (3, aR 66 0), (4, aR 67 0), (5, aI l5)]) (st' := [aR 66 0, aI (gI Y.1 68 0 (ix (l5 + (nI 2)))), aI (gI Y.1 68 0 (ix (l5 + (nI 1)))), aR 0 0]) (cs' := [vp_in (l5 + (nI 2)) L]) (fun _ => rfl) (al1 (vin hc2)) ?_
  obtain ⟨v5, Y3, hv4, h⟩ := bd_some h
  refine l_cS1 (n := m + 6) (b' := 2) k334 (sn_308 _ _ _ _ hv4) rfl (st := []) rfl ?_
  refine l_sg k334 1 (pc' := 1015) (ls' := [(0, aR 68 0), (1, aR 0 0), (2, aR 48 0), (3, aR 66 0), (4, aR 67 0), (5, aI l5), (6, aI v5)]) (st' := []) (cs' := []) (fun _ => rfl) al0 ?_
  refine l_sg k334 8 (pc' := 1025) (ls' := [(0, aR 68 0), (1, aR 0 0), (2, aR 48 0), (3, aR 66 0), (4, aR 67 0), (5, aI l5), (6, aI v5)]) (st' := [aI l5, aR 68 0, aI (gI Y3.1 68 0 (ix (l5 + (nI 1)))), aR 48 0]) (cs' := [vp_in (l5 + (nI 1)) L]) (fun _ => rfl) (al1 (vin hc1)) ?_
  refine l_sg k334 3 (pc' := 1028) (ls' := [(0, aR 68 0), (1, aR 0 0), (2, aR 48 0), (3, aR 66 0), (4, aR 67 0), (5, aI l5), (6, aI v5)]) (st' := [aI (gI Y3.1 68 0 (ix (l5 + (nI 2)))), aI (gI Y3.1 68 0 (ix (l5 + (nI 1)))), aR 48 0]) (cs' := [vp_in (l5 + (nI 2)) L]) (fun _ => rfl) (al1 (vin hc2)) ?_
  obtain ⟨v8, Y6, hv7, h⟩ := bd_some h
  refine l_cV1 (n := m + 6) (b' := 0) k334 (sn_240 _ _ _ _ hv7) rfl (st := []) rfl ?_
  refine l_sg k334 1 (pc' := 1033) (ls' := [(0, aR 68 0), (1, aR 0 0), (2, aR 48 0), (3, aR 66 0), (4, aR 67 0), (5, aI l5), (6, aI v5), (7, aI v8)]) (st' := []) (cs' := []) (fun _ => rfl) al0 ?_
  refine l_sg k334 1 (pc' := 1034) (ls' := [(0, aR 68 0), (1, aR 0 0), (2, aR 48 0), (3, aR 66 0), (4, aR 67 0), (5, aI l5), (6, aI v5), (7, aI v8)]) (st' := [aR 48 0]) (cs' := []) (fun _ => rfl) al0 ?_
  obtain ⟨v11, Y9, hv10, h⟩ := bd_some h
  refine l_cV1 (n := m + 6) (b' := 0) k334 (sn_163  _ _ hv10) rfl (st := []) rfl ?_
  refine l_sg k334 1 (pc' := 1039) (ls' := [(0, aR 68 0), (1, aR 0 0), (2, aR 48 0), (3, aR 66 0), (4, aR 67 0), (5, aI l5), (6, aI v5), (7, aI v8)]) (st' := [aI v5, aI v11]) (cs' := []) (fun _ => rfl) al0 ?_
  refine l_icmp_eq k334 rfl (fun c => ?_) (fun c => ?_)
  · replace h := if_t c h
    refine l_sg k334 1 (pc' := 1046) (ls' := [(0, aR 68 0), (1, aR 0 0), (2, aR 48 0), (3, aR 66 0), (4, aR 67 0), (5, aI l5), (6, aI v5), (7, aI v8)]) (st' := [aI v5]) (cs' := []) (fun _ => rfl) al0 ?_
    refine l_if_ne k334 rfl (fun c => ?_) (fun c => ?_)
    · replace h := if_f c h
      refine l_sg k334 2 (pc' := 2736) (ls' := [(0, aR 68 0), (1, aR 0 0), (2, aR 48 0), (3, aR 66 0), (4, aR 67 0), (5, aI (l5 + (nI 6))), (6, aI v5), (7, aI v8)]) (st' := []) (cs' := []) (fun _ => rfl) al0 ?_
      refine l_sg k334 1 (pc' := 28) (ls' := [(0, aR 68 0), (1, aR 0 0), (2, aR 48 0), (3, aR 66 0), (4, aR 67 0), (5, aI (l5 + (nI 6))), (6, aI v5), (7, aI v8)]) (st' := []) (cs' := []) (fun _ => rfl) al0 ?_
      refine l_ls [(0, aR 68 0), (1, aR 0 0), (2, aR 48 0), (3, aR 66 0), (4, aR 67 0), (5, aI (l5 + (nI 6)))] (lq_c rfl (lq_c rfl (lq_c rfl (lq_c rfl (lq_c rfl (lq_c rfl lq_n)))))) ?_
      obtain rfl := Option.some.inj h
      exact l_mono (hi _ _ rfl)
    · replace h := if_t c h
      refine l_sg k334 6 (pc' := 1056) (ls' := [(0, aR 68 0), (1, aR 0 0), (2, aR 48 0), (3, aR 66 0), (4, aR 67 0), (5, aI l5), (6, aI v5), (7, aI v8)]) (st' := [aI (lg_cmp (gJ Y9.1 66 0 0) ((v8).toInt64))]) (cs' := [vp_in (nI 0) 1]) (fun _ => rfl) (al1 (vin rfl)) ?_
      refine l_if_eq k334 rfl (fun c => ?_) (fun c => ?_)
      · replace h := if_t c h
        refine l_sg k334 2 (pc' := 2736) (ls' := [(0, aR 68 0), (1, aR 0 0), (2, aR 48 0), (3, aR 66 0), (4, aR 67 0), (5, aI (l5 + (nI 6))), (6, aI v5), (7, aI v8)]) (st' := []) (cs' := []) (fun _ => rfl) al0 ?_
        refine l_sg k334 1 (pc' := 28) (ls' := [(0, aR 68 0), (1, aR 0 0), (2, aR 48 0), (3, aR 66 0), (4, aR 67 0), (5, aI (l5 + (nI 6))), (6, aI v5), (7, aI v8)]) (st' := []) (cs' := []) (fun _ => rfl) al0 ?_
        refine l_ls [(0, aR 68 0), (1, aR 0 0), (2, aR 48 0), (3, aR 66 0), (4, aR 67 0), (5, aI (l5 + (nI 6)))] (lq_c rfl (lq_c rfl (lq_c rfl (lq_c rfl (lq_c rfl (lq_c rfl lq_n)))))) ?_
        obtain rfl := Option.some.inj h
        exact l_mono (hi _ _ rfl)
      · replace h := if_f c h
        refine l_sg k334 1 (pc' := 1060) (ls' := [(0, aR 68 0), (1, aR 0 0), (2, aR 48 0), (3, aR 66 0), (4, aR 67 0), (5, aI l5), (6, aI v5), (7, aI v8)]) (st' := [aI (nI 0)]) (cs' := []) (fun _ => rfl) al0 ?_
        obtain rfl := Option.some.inj h
        exact l_zreturn k334 (Or.inl rfl) (hr _ rfl)
  · replace h := if_f c h
    refine l_sg k334 1 (pc' := 1043) (ls' := [(0, aR 68 0), (1, aR 0 0), (2, aR 48 0), (3, aR 66 0), (4, aR 67 0), (5, aI l5), (6, aI v5), (7, aI v8)]) (st' := [aI (nI 0)]) (cs' := []) (fun _ => rfl) al0 ?_
    obtain rfl := Option.some.inj h
    exact l_zreturn k334 (Or.inl rfl) (hr _ rfl)
def fn_334_J1064 (L : Nat) (l5 : Int32) (Y : Sm) : Option ((Int32 × Sm) ⊕ (Int32 × Sm)) :=
  ck (inb (l5 + (nI 1)) L) <| ck (inb (l5 + (nI 2)) L) <| bd (fn_309 (gI Y.1 68 0 (ix (l5 + (nI 1)))) (gI Y.1 68 0 (ix (l5 + (nI 2)))) Y) fun v5 Y3 => bd (fn_241 (gI Y3.1 68 0 (ix (l5 + (nI 1)))) (gI Y3.1 68 0 (ix (l5 + (nI 2)))) Y3) fun v8 Y6 => bd (fn_163 Y6) fun v11 Y9 => (if v11 = v5 then (if v5 = (nI 0) then (if v8 = (nI 0) then (if (lg_cmp (gJ Y9.1 66 0 0) (Int64.ofNat 0)) = (nI 0) then some (.inl ((l5 + (nI 6)), Y9)) else some (.inr ((nI 0), Y9))) else (if (lg_cmp (gJ Y9.1 66 0 0) (Int64.ofNat 1)) = (nI 0) then some (.inl ((l5 + (nI 6)), Y9)) else some (.inr ((nI 0), Y9)))) else some (.inl ((l5 + (nI 6)), Y9))) else some (.inr ((nI 0), Y9)))
set_option maxRecDepth 20000 in
set_option maxHeartbeats 4000000 in
theorem sn_334_J1064 {L B m : Nat} {l5 : Int32} {Y : Sm} {q : (Int32 × Sm) ⊕ (Int32 × Sm)} {P : Option Av → Sm → Prop} {E : Nat → Sm → Prop} (hi : ∀ i Z, q = .inl (i, Z) → Wl L 16 B m 28 [(0, aR 68 0), (1, aR 0 0), (2, aR 48 0), (3, aR 66 0), (4, aR 67 0), (5, aI i)] [] Z P E) (hr : ∀ o : Int32 × Sm, q = .inr o → P (some (aI o.1)) o.2) (h : fn_334_J1064 L l5 Y = some q) : Wl L 16 B (m + 8) 1064 [(0, aR 68 0), (1, aR 0 0), (2, aR 48 0), (3, aR 66 0), (4, aR 67 0), (5, aI l5)] [] Y P E := by
  unfold fn_334_J1064 at h
  obtain ⟨hc1, h⟩ := ck_some h
  refine l_sg k334 8 (pc' := 1074) (ls' := [(0, aR 68 0), (1, aR 0 0), (2, aR 48 0), (3, aR 66 0), (4, aR 67 0), (5, aI l5)]) (st' := [aI l5, aR 68 0, aI (gI Y.1 68 0 (ix (l5 + (nI 1)))), aR 0 0]) (cs' := [vp_in (l5 + (nI 1)) L]) (fun _ => rfl) (al1 (vin hc1)) ?_
  obtain ⟨hc2, h⟩ := ck_some h
  refine l_sg k334 4 (pc' := 1078) (ls' := [(0, aR 68 0), (1, aR 0 0), (2, aR 48 0), (3, aR 66 0), (4, aR 67 0), (5, aI l5)]) (st' := [aR 66 0, aI (gI Y.1 68 0 (ix (l5 + (nI 2)))), aI (gI Y.1 68 0 (ix (l5 + (nI 1)))), aR 0 0]) (cs' := [vp_in (l5 + (nI 2)) L]) (fun _ => rfl) (al1 (vin hc2)) ?_
  obtain ⟨v5, Y3, hv4, h⟩ := bd_some h
  refine l_cS1 (n := m + 6) (b' := 2) k334 (sn_309 _ _ _ _ hv4) rfl (st := []) rfl ?_
  refine l_sg k334 1 (pc' := 1083) (ls' := [(0, aR 68 0), (1, aR 0 0), (2, aR 48 0), (3, aR 66 0), (4, aR 67 0), (5, aI l5), (6, aI v5)]) (st' := []) (cs' := []) (fun _ => rfl) al0 ?_
  refine l_sg k334 8 (pc' := 1093) (ls' := [(0, aR 68 0), (1, aR 0 0), (2, aR 48 0), (3, aR 66 0), (4, aR 67 0), (5, aI l5), (6, aI v5)]) (st' := [aI l5, aR 68 0, aI (gI Y3.1 68 0 (ix (l5 + (nI 1)))), aR 48 0]) (cs' := [vp_in (l5 + (nI 1)) L]) (fun _ => rfl) (al1 (vin hc1)) ?_
  refine l_sg k334 3 (pc' := 1096) (ls' := [(0, aR 68 0), (1, aR 0 0), (2, aR 48 0), (3, aR 66 0), (4, aR 67 0), (5, aI l5), (6, aI v5)]) (st' := [aI (gI Y3.1 68 0 (ix (l5 + (nI 2)))), aI (gI Y3.1 68 0 (ix (l5 + (nI 1)))), aR 48 0]) (cs' := [vp_in (l5 + (nI 2)) L]) (fun _ => rfl) (al1 (vin hc2)) ?_
  obtain ⟨v8, Y6, hv7, h⟩ := bd_some h
  refine l_cV1 (n := m + 6) (b' := 0) k334 (sn_241 _ _ _ _ hv7) rfl (st := []) rfl ?_
  refine l_sg k334 1 (pc' := 1101) (ls' := [(0, aR 68 0), (1, aR 0 0), (2, aR 48 0), (3, aR 66 0), (4, aR 67 0), (5, aI l5), (6, aI v5), (7, aI v8)]) (st' := []) (cs' := []) (fun _ => rfl) al0 ?_
  refine l_sg k334 1 (pc' := 1102) (ls' := [(0, aR 68 0), (1, aR 0 0), (2, aR 48 0), (3, aR 66 0), (4, aR 67 0), (5, aI l5), (6, aI v5), (7, aI v8)]) (st' := [aR 48 0]) (cs' := []) (fun _ => rfl) al0 ?_
  obtain ⟨v11, Y9, hv10, h⟩ := bd_some h
  refine l_cV1 (n := m + 6) (b' := 0) k334 (sn_163  _ _ hv10) rfl (st := []) rfl ?_
  refine l_sg k334 1 (pc' := 1107) (ls' := [(0, aR 68 0), (1, aR 0 0), (2, aR 48 0), (3, aR 66 0), (4, aR 67 0), (5, aI l5), (6, aI v5), (7, aI v8)]) (st' := [aI v5, aI v11]) (cs' := []) (fun _ => rfl) al0 ?_
  refine l_icmp_eq k334 rfl (fun c => ?_) (fun c => ?_)
  · replace h := if_t c h
    refine l_sg k334 1 (pc' := 1114) (ls' := [(0, aR 68 0), (1, aR 0 0), (2, aR 48 0), (3, aR 66 0), (4, aR 67 0), (5, aI l5), (6, aI v5), (7, aI v8)]) (st' := [aI v5]) (cs' := []) (fun _ => rfl) al0 ?_
    refine l_if_ne k334 rfl (fun c => ?_) (fun c => ?_)
    · replace h := if_f c h
      refine l_sg k334 2 (pc' := 2736) (ls' := [(0, aR 68 0), (1, aR 0 0), (2, aR 48 0), (3, aR 66 0), (4, aR 67 0), (5, aI (l5 + (nI 6))), (6, aI v5), (7, aI v8)]) (st' := []) (cs' := []) (fun _ => rfl) al0 ?_
      refine l_sg k334 1 (pc' := 28) (ls' := [(0, aR 68 0), (1, aR 0 0), (2, aR 48 0), (3, aR 66 0), (4, aR 67 0), (5, aI (l5 + (nI 6))), (6, aI v5), (7, aI v8)]) (st' := []) (cs' := []) (fun _ => rfl) al0 ?_
      refine l_ls [(0, aR 68 0), (1, aR 0 0), (2, aR 48 0), (3, aR 66 0), (4, aR 67 0), (5, aI (l5 + (nI 6)))] (lq_c rfl (lq_c rfl (lq_c rfl (lq_c rfl (lq_c rfl (lq_c rfl lq_n)))))) ?_
      obtain rfl := Option.some.inj h
      exact l_mono (hi _ _ rfl)
    · replace h := if_t c h
      refine l_sg k334 4 (pc' := 1122) (ls' := [(0, aR 68 0), (1, aR 0 0), (2, aR 48 0), (3, aR 66 0), (4, aR 67 0), (5, aI l5), (6, aI v5), (7, aI v8)]) (st' := [aI v8, aJ (gJ Y9.1 66 0 0)]) (cs' := [vp_in (nI 0) 1]) (fun _ => rfl) (al1 (vin rfl)) ?_
      refine l_if_eq k334 rfl (fun c => ?_) (fun c => ?_)
      · replace h := if_t c h
        refine l_sg k334 2 (pc' := 1131) (ls' := [(0, aR 68 0), (1, aR 0 0), (2, aR 48 0), (3, aR 66 0), (4, aR 67 0), (5, aI l5), (6, aI v5), (7, aI v8)]) (st' := [aI (lg_cmp (gJ Y9.1 66 0 0) (Int64.ofNat 0))]) (cs' := []) (fun _ => rfl) al0 ?_
        refine l_if_eq k334 rfl (fun c => ?_) (fun c => ?_)
        · replace h := if_t c h
          refine l_sg k334 2 (pc' := 2736) (ls' := [(0, aR 68 0), (1, aR 0 0), (2, aR 48 0), (3, aR 66 0), (4, aR 67 0), (5, aI (l5 + (nI 6))), (6, aI v5), (7, aI v8)]) (st' := []) (cs' := []) (fun _ => rfl) al0 ?_
          refine l_sg k334 1 (pc' := 28) (ls' := [(0, aR 68 0), (1, aR 0 0), (2, aR 48 0), (3, aR 66 0), (4, aR 67 0), (5, aI (l5 + (nI 6))), (6, aI v5), (7, aI v8)]) (st' := []) (cs' := []) (fun _ => rfl) al0 ?_
          refine l_ls [(0, aR 68 0), (1, aR 0 0), (2, aR 48 0), (3, aR 66 0), (4, aR 67 0), (5, aI (l5 + (nI 6)))] (lq_c rfl (lq_c rfl (lq_c rfl (lq_c rfl (lq_c rfl (lq_c rfl lq_n)))))) ?_
          obtain rfl := Option.some.inj h
          exact l_mono (hi _ _ rfl)
        · replace h := if_f c h
          refine l_sg k334 1 (pc' := 1135) (ls' := [(0, aR 68 0), (1, aR 0 0), (2, aR 48 0), (3, aR 66 0), (4, aR 67 0), (5, aI l5), (6, aI v5), (7, aI v8)]) (st' := [aI (nI 0)]) (cs' := []) (fun _ => rfl) al0 ?_
          obtain rfl := Option.some.inj h
          exact l_zreturn k334 (Or.inl rfl) (hr _ rfl)
      · replace h := if_f c h
        refine l_sg k334 3 (pc' := 1131) (ls' := [(0, aR 68 0), (1, aR 0 0), (2, aR 48 0), (3, aR 66 0), (4, aR 67 0), (5, aI l5), (6, aI v5), (7, aI v8)]) (st' := [aI (lg_cmp (gJ Y9.1 66 0 0) (Int64.ofNat 1))]) (cs' := []) (fun _ => rfl) al0 ?_
        refine l_if_eq k334 rfl (fun c => ?_) (fun c => ?_)
        · replace h := if_t c h
          refine l_sg k334 2 (pc' := 2736) (ls' := [(0, aR 68 0), (1, aR 0 0), (2, aR 48 0), (3, aR 66 0), (4, aR 67 0), (5, aI (l5 + (nI 6))), (6, aI v5), (7, aI v8)]) (st' := []) (cs' := []) (fun _ => rfl) al0 ?_
          refine l_sg k334 1 (pc' := 28) (ls' := [(0, aR 68 0), (1, aR 0 0), (2, aR 48 0), (3, aR 66 0), (4, aR 67 0), (5, aI (l5 + (nI 6))), (6, aI v5), (7, aI v8)]) (st' := []) (cs' := []) (fun _ => rfl) al0 ?_
          refine l_ls [(0, aR 68 0), (1, aR 0 0), (2, aR 48 0), (3, aR 66 0), (4, aR 67 0), (5, aI (l5 + (nI 6)))] (lq_c rfl (lq_c rfl (lq_c rfl (lq_c rfl (lq_c rfl (lq_c rfl lq_n)))))) ?_
          obtain rfl := Option.some.inj h
          exact l_mono (hi _ _ rfl)
        · replace h := if_f c h
          refine l_sg k334 1 (pc' := 1135) (ls' := [(0, aR 68 0), (1, aR 0 0), (2, aR 48 0), (3, aR 66 0), (4, aR 67 0), (5, aI l5), (6, aI v5), (7, aI v8)]) (st' := [aI (nI 0)]) (cs' := []) (fun _ => rfl) al0 ?_
          obtain rfl := Option.some.inj h
          exact l_zreturn k334 (Or.inl rfl) (hr _ rfl)
  · replace h := if_f c h
    refine l_sg k334 1 (pc' := 1111) (ls' := [(0, aR 68 0), (1, aR 0 0), (2, aR 48 0), (3, aR 66 0), (4, aR 67 0), (5, aI l5), (6, aI v5), (7, aI v8)]) (st' := [aI (nI 0)]) (cs' := []) (fun _ => rfl) al0 ?_
    obtain rfl := Option.some.inj h
    exact l_zreturn k334 (Or.inl rfl) (hr _ rfl)
def fn_334_J1139 (L : Nat) (l5 : Int32) (Y : Sm) : Option ((Int32 × Sm) ⊕ (Int32 × Sm)) :=
  ck (inb (l5 + (nI 1)) L) <| bd (fn_310 (gI Y.1 68 0 (ix (l5 + (nI 1)))) Y) fun v4 Y2 => bd (fn_242 (gI Y2.1 68 0 (ix (l5 + (nI 1)))) Y2) fun v7 Y5 => bd (fn_163 Y5) fun v10 Y8 => (if v10 = v4 then (if v4 = (nI 0) then (if (lg_cmp (gJ Y8.1 66 0 0) ((v7).toInt64)) = (nI 0) then some (.inl ((l5 + (nI 6)), Y8)) else some (.inr ((nI 0), Y8))) else some (.inl ((l5 + (nI 6)), Y8))) else some (.inr ((nI 0), Y8)))
set_option maxRecDepth 20000 in
set_option maxHeartbeats 4000000 in
theorem sn_334_J1139 {L B m : Nat} {l5 : Int32} {Y : Sm} {q : (Int32 × Sm) ⊕ (Int32 × Sm)} {P : Option Av → Sm → Prop} {E : Nat → Sm → Prop} (hi : ∀ i Z, q = .inl (i, Z) → Wl L 16 B m 28 [(0, aR 68 0), (1, aR 0 0), (2, aR 48 0), (3, aR 66 0), (4, aR 67 0), (5, aI i)] [] Z P E) (hr : ∀ o : Int32 × Sm, q = .inr o → P (some (aI o.1)) o.2) (h : fn_334_J1139 L l5 Y = some q) : Wl L 16 B (m + 8) 1139 [(0, aR 68 0), (1, aR 0 0), (2, aR 48 0), (3, aR 66 0), (4, aR 67 0), (5, aI l5)] [] Y P E := by
  unfold fn_334_J1139 at h
  obtain ⟨hc1, h⟩ := ck_some h
  refine l_sg k334 7 (pc' := 1147) (ls' := [(0, aR 68 0), (1, aR 0 0), (2, aR 48 0), (3, aR 66 0), (4, aR 67 0), (5, aI l5)]) (st' := [aR 66 0, aI (gI Y.1 68 0 (ix (l5 + (nI 1)))), aR 0 0]) (cs' := [vp_in (l5 + (nI 1)) L]) (fun _ => rfl) (al1 (vin hc1)) ?_
  obtain ⟨v4, Y2, hv3, h⟩ := bd_some h
  refine l_cS1 (n := m + 7) (b' := 1) k334 (sn_310 _ _ _ hv3) rfl (st := []) rfl ?_
  refine l_sg k334 1 (pc' := 1152) (ls' := [(0, aR 68 0), (1, aR 0 0), (2, aR 48 0), (3, aR 66 0), (4, aR 67 0), (5, aI l5), (6, aI v4)]) (st' := []) (cs' := []) (fun _ => rfl) al0 ?_
  refine l_sg k334 6 (pc' := 1159) (ls' := [(0, aR 68 0), (1, aR 0 0), (2, aR 48 0), (3, aR 66 0), (4, aR 67 0), (5, aI l5), (6, aI v4)]) (st' := [aI (gI Y2.1 68 0 (ix (l5 + (nI 1)))), aR 48 0]) (cs' := [vp_in (l5 + (nI 1)) L]) (fun _ => rfl) (al1 (vin hc1)) ?_
  obtain ⟨v7, Y5, hv6, h⟩ := bd_some h
  refine l_cV1 (n := m + 7) (b' := 0) k334 (sn_242 _ _ _ hv6) rfl (st := []) rfl ?_
  refine l_sg k334 1 (pc' := 1164) (ls' := [(0, aR 68 0), (1, aR 0 0), (2, aR 48 0), (3, aR 66 0), (4, aR 67 0), (5, aI l5), (6, aI v4), (7, aI v7)]) (st' := []) (cs' := []) (fun _ => rfl) al0 ?_
  refine l_sg k334 1 (pc' := 1165) (ls' := [(0, aR 68 0), (1, aR 0 0), (2, aR 48 0), (3, aR 66 0), (4, aR 67 0), (5, aI l5), (6, aI v4), (7, aI v7)]) (st' := [aR 48 0]) (cs' := []) (fun _ => rfl) al0 ?_
  obtain ⟨v10, Y8, hv9, h⟩ := bd_some h
  refine l_cV1 (n := m + 7) (b' := 0) k334 (sn_163  _ _ hv9) rfl (st := []) rfl ?_
  refine l_sg k334 1 (pc' := 1170) (ls' := [(0, aR 68 0), (1, aR 0 0), (2, aR 48 0), (3, aR 66 0), (4, aR 67 0), (5, aI l5), (6, aI v4), (7, aI v7)]) (st' := [aI v4, aI v10]) (cs' := []) (fun _ => rfl) al0 ?_
  refine l_icmp_eq k334 rfl (fun c => ?_) (fun c => ?_)
  · replace h := if_t c h
    refine l_sg k334 1 (pc' := 1177) (ls' := [(0, aR 68 0), (1, aR 0 0), (2, aR 48 0), (3, aR 66 0), (4, aR 67 0), (5, aI l5), (6, aI v4), (7, aI v7)]) (st' := [aI v4]) (cs' := []) (fun _ => rfl) al0 ?_
    refine l_if_ne k334 rfl (fun c => ?_) (fun c => ?_)
    · replace h := if_f c h
      refine l_sg k334 2 (pc' := 2736) (ls' := [(0, aR 68 0), (1, aR 0 0), (2, aR 48 0), (3, aR 66 0), (4, aR 67 0), (5, aI (l5 + (nI 6))), (6, aI v4), (7, aI v7)]) (st' := []) (cs' := []) (fun _ => rfl) al0 ?_
      refine l_sg k334 1 (pc' := 28) (ls' := [(0, aR 68 0), (1, aR 0 0), (2, aR 48 0), (3, aR 66 0), (4, aR 67 0), (5, aI (l5 + (nI 6))), (6, aI v4), (7, aI v7)]) (st' := []) (cs' := []) (fun _ => rfl) al0 ?_
      refine l_ls [(0, aR 68 0), (1, aR 0 0), (2, aR 48 0), (3, aR 66 0), (4, aR 67 0), (5, aI (l5 + (nI 6)))] (lq_c rfl (lq_c rfl (lq_c rfl (lq_c rfl (lq_c rfl (lq_c rfl lq_n)))))) ?_
      obtain rfl := Option.some.inj h
      exact l_mono (hi _ _ rfl)
    · replace h := if_t c h
      refine l_sg k334 6 (pc' := 1187) (ls' := [(0, aR 68 0), (1, aR 0 0), (2, aR 48 0), (3, aR 66 0), (4, aR 67 0), (5, aI l5), (6, aI v4), (7, aI v7)]) (st' := [aI (lg_cmp (gJ Y8.1 66 0 0) ((v7).toInt64))]) (cs' := [vp_in (nI 0) 1]) (fun _ => rfl) (al1 (vin rfl)) ?_
      refine l_if_eq k334 rfl (fun c => ?_) (fun c => ?_)
      · replace h := if_t c h
        refine l_sg k334 2 (pc' := 2736) (ls' := [(0, aR 68 0), (1, aR 0 0), (2, aR 48 0), (3, aR 66 0), (4, aR 67 0), (5, aI (l5 + (nI 6))), (6, aI v4), (7, aI v7)]) (st' := []) (cs' := []) (fun _ => rfl) al0 ?_
        refine l_sg k334 1 (pc' := 28) (ls' := [(0, aR 68 0), (1, aR 0 0), (2, aR 48 0), (3, aR 66 0), (4, aR 67 0), (5, aI (l5 + (nI 6))), (6, aI v4), (7, aI v7)]) (st' := []) (cs' := []) (fun _ => rfl) al0 ?_
        refine l_ls [(0, aR 68 0), (1, aR 0 0), (2, aR 48 0), (3, aR 66 0), (4, aR 67 0), (5, aI (l5 + (nI 6)))] (lq_c rfl (lq_c rfl (lq_c rfl (lq_c rfl (lq_c rfl (lq_c rfl lq_n)))))) ?_
        obtain rfl := Option.some.inj h
        exact l_mono (hi _ _ rfl)
      · replace h := if_f c h
        refine l_sg k334 1 (pc' := 1191) (ls' := [(0, aR 68 0), (1, aR 0 0), (2, aR 48 0), (3, aR 66 0), (4, aR 67 0), (5, aI l5), (6, aI v4), (7, aI v7)]) (st' := [aI (nI 0)]) (cs' := []) (fun _ => rfl) al0 ?_
        obtain rfl := Option.some.inj h
        exact l_zreturn k334 (Or.inl rfl) (hr _ rfl)
  · replace h := if_f c h
    refine l_sg k334 1 (pc' := 1174) (ls' := [(0, aR 68 0), (1, aR 0 0), (2, aR 48 0), (3, aR 66 0), (4, aR 67 0), (5, aI l5), (6, aI v4), (7, aI v7)]) (st' := [aI (nI 0)]) (cs' := []) (fun _ => rfl) al0 ?_
    obtain rfl := Option.some.inj h
    exact l_zreturn k334 (Or.inl rfl) (hr _ rfl)
def fn_334_J1195 (L : Nat) (l5 : Int32) (Y : Sm) : Option ((Int32 × Sm) ⊕ (Int32 × Sm)) :=
  bd (fn_123 Y) fun v3 Y1 => bd (fn_243 Y1) fun v6 Y4 => (if v3 = v6 then some (.inl ((l5 + (nI 6)), Y4)) else some (.inr ((nI 0), Y4)))
set_option maxRecDepth 20000 in
set_option maxHeartbeats 4000000 in
theorem sn_334_J1195 {L B m : Nat} {l5 : Int32} {Y : Sm} {q : (Int32 × Sm) ⊕ (Int32 × Sm)} {P : Option Av → Sm → Prop} {E : Nat → Sm → Prop} (hi : ∀ i Z, q = .inl (i, Z) → Wl L 16 B m 28 [(0, aR 68 0), (1, aR 0 0), (2, aR 48 0), (3, aR 66 0), (4, aR 67 0), (5, aI i)] [] Z P E) (hr : ∀ o : Int32 × Sm, q = .inr o → P (some (aI o.1)) o.2) (h : fn_334_J1195 L l5 Y = some q) : Wl L 16 B (m + 8) 1195 [(0, aR 68 0), (1, aR 0 0), (2, aR 48 0), (3, aR 66 0), (4, aR 67 0), (5, aI l5)] [] Y P E := by
  unfold fn_334_J1195 at h
  refine l_sg k334 1 (pc' := 1196) (ls' := [(0, aR 68 0), (1, aR 0 0), (2, aR 48 0), (3, aR 66 0), (4, aR 67 0), (5, aI l5)]) (st' := [aR 0 0]) (cs' := []) (fun _ => rfl) al0 ?_
  obtain ⟨v3, Y1, hv2, h⟩ := bd_some h
  refine l_cV1 (n := m + 8) (b' := 0) k334 (sn_123  _ _ hv2) rfl (st := []) rfl ?_
  refine l_sg k334 1 (pc' := 1200) (ls' := [(0, aR 68 0), (1, aR 0 0), (2, aR 48 0), (3, aR 66 0), (4, aR 67 0), (5, aI l5)]) (st' := [aR 48 0, aI v3]) (cs' := []) (fun _ => rfl) al0 ?_
  obtain ⟨v6, Y4, hv5, h⟩ := bd_some h
  refine l_cV1 (n := m + 8) (b' := 0) k334 (sn_243  _ _ hv5) rfl (st := [aI v3]) rfl ?_
  refine l_icmp_eq k334 rfl (fun c => ?_) (fun c => ?_)
  · replace h := if_t c h
    refine l_sg k334 1 (pc' := 2736) (ls' := [(0, aR 68 0), (1, aR 0 0), (2, aR 48 0), (3, aR 66 0), (4, aR 67 0), (5, aI (l5 + (nI 6)))]) (st' := []) (cs' := []) (fun _ => rfl) al0 ?_
    refine l_sg k334 1 (pc' := 28) (ls' := [(0, aR 68 0), (1, aR 0 0), (2, aR 48 0), (3, aR 66 0), (4, aR 67 0), (5, aI (l5 + (nI 6)))]) (st' := []) (cs' := []) (fun _ => rfl) al0 ?_
    refine l_ls [(0, aR 68 0), (1, aR 0 0), (2, aR 48 0), (3, aR 66 0), (4, aR 67 0), (5, aI (l5 + (nI 6)))] (lq_c rfl (lq_c rfl (lq_c rfl (lq_c rfl (lq_c rfl (lq_c rfl lq_n)))))) ?_
    obtain rfl := Option.some.inj h
    exact l_mono (hi _ _ rfl)
  · replace h := if_f c h
    refine l_sg k334 1 (pc' := 1207) (ls' := [(0, aR 68 0), (1, aR 0 0), (2, aR 48 0), (3, aR 66 0), (4, aR 67 0), (5, aI l5)]) (st' := [aI (nI 0)]) (cs' := []) (fun _ => rfl) al0 ?_
    obtain rfl := Option.some.inj h
    exact l_zreturn k334 (Or.inl rfl) (hr _ rfl)
def fn_334_J1208 (L : Nat) (l5 : Int32) (Y : Sm) : Option ((Int32 × Sm) ⊕ (Int32 × Sm)) :=
  ck (inb (l5 + (nI 1)) L) <| ck (inb (l5 + (nI 2)) L) <| bd (fn_311 (gI Y.1 68 0 (ix (l5 + (nI 1)))) (gI Y.1 68 0 (ix (l5 + (nI 2)))) Y) fun v5 Y3 => bd (fn_244 (gI Y3.1 68 0 (ix (l5 + (nI 1)))) (gI Y3.1 68 0 (ix (l5 + (nI 2)))) Y3) fun v8 Y6 => bd (fn_163 Y6) fun v11 Y9 => (if v11 = v5 then (if v5 = (nI 0) then (if (lg_cmp (gJ Y9.1 66 0 0) ((v8).toInt64)) = (nI 0) then some (.inl ((l5 + (nI 6)), Y9)) else some (.inr ((nI 0), Y9))) else some (.inl ((l5 + (nI 6)), Y9))) else some (.inr ((nI 0), Y9)))
set_option maxRecDepth 20000 in
set_option maxHeartbeats 4000000 in
theorem sn_334_J1208 {L B m : Nat} {l5 : Int32} {Y : Sm} {q : (Int32 × Sm) ⊕ (Int32 × Sm)} {P : Option Av → Sm → Prop} {E : Nat → Sm → Prop} (hi : ∀ i Z, q = .inl (i, Z) → Wl L 16 B m 28 [(0, aR 68 0), (1, aR 0 0), (2, aR 48 0), (3, aR 66 0), (4, aR 67 0), (5, aI i)] [] Z P E) (hr : ∀ o : Int32 × Sm, q = .inr o → P (some (aI o.1)) o.2) (h : fn_334_J1208 L l5 Y = some q) : Wl L 16 B (m + 8) 1208 [(0, aR 68 0), (1, aR 0 0), (2, aR 48 0), (3, aR 66 0), (4, aR 67 0), (5, aI l5)] [] Y P E := by
  unfold fn_334_J1208 at h
  obtain ⟨hc1, h⟩ := ck_some h
  refine l_sg k334 8 (pc' := 1218) (ls' := [(0, aR 68 0), (1, aR 0 0), (2, aR 48 0), (3, aR 66 0), (4, aR 67 0), (5, aI l5)]) (st' := [aI l5, aR 68 0, aI (gI Y.1 68 0 (ix (l5 + (nI 1)))), aR 0 0]) (cs' := [vp_in (l5 + (nI 1)) L]) (fun _ => rfl) (al1 (vin hc1)) ?_
  obtain ⟨hc2, h⟩ := ck_some h
  refine l_sg k334 4 (pc' := 1222) (ls' := [(0, aR 68 0), (1, aR 0 0), (2, aR 48 0), (3, aR 66 0), (4, aR 67 0), (5, aI l5)]) (st' := [aR 66 0, aI (gI Y.1 68 0 (ix (l5 + (nI 2)))), aI (gI Y.1 68 0 (ix (l5 + (nI 1)))), aR 0 0]) (cs' := [vp_in (l5 + (nI 2)) L]) (fun _ => rfl) (al1 (vin hc2)) ?_
  obtain ⟨v5, Y3, hv4, h⟩ := bd_some h
  refine l_cS1 (n := m + 6) (b' := 2) k334 (sn_311 _ _ _ _ hv4) rfl (st := []) rfl ?_
  refine l_sg k334 1 (pc' := 1227) (ls' := [(0, aR 68 0), (1, aR 0 0), (2, aR 48 0), (3, aR 66 0), (4, aR 67 0), (5, aI l5), (6, aI v5)]) (st' := []) (cs' := []) (fun _ => rfl) al0 ?_
  refine l_sg k334 8 (pc' := 1237) (ls' := [(0, aR 68 0), (1, aR 0 0), (2, aR 48 0), (3, aR 66 0), (4, aR 67 0), (5, aI l5), (6, aI v5)]) (st' := [aI l5, aR 68 0, aI (gI Y3.1 68 0 (ix (l5 + (nI 1)))), aR 48 0]) (cs' := [vp_in (l5 + (nI 1)) L]) (fun _ => rfl) (al1 (vin hc1)) ?_
  refine l_sg k334 3 (pc' := 1240) (ls' := [(0, aR 68 0), (1, aR 0 0), (2, aR 48 0), (3, aR 66 0), (4, aR 67 0), (5, aI l5), (6, aI v5)]) (st' := [aI (gI Y3.1 68 0 (ix (l5 + (nI 2)))), aI (gI Y3.1 68 0 (ix (l5 + (nI 1)))), aR 48 0]) (cs' := [vp_in (l5 + (nI 2)) L]) (fun _ => rfl) (al1 (vin hc2)) ?_
  obtain ⟨v8, Y6, hv7, h⟩ := bd_some h
  refine l_cV1 (n := m + 6) (b' := 0) k334 (sn_244 _ _ _ _ hv7) rfl (st := []) rfl ?_
  refine l_sg k334 1 (pc' := 1245) (ls' := [(0, aR 68 0), (1, aR 0 0), (2, aR 48 0), (3, aR 66 0), (4, aR 67 0), (5, aI l5), (6, aI v5), (7, aI v8)]) (st' := []) (cs' := []) (fun _ => rfl) al0 ?_
  refine l_sg k334 1 (pc' := 1246) (ls' := [(0, aR 68 0), (1, aR 0 0), (2, aR 48 0), (3, aR 66 0), (4, aR 67 0), (5, aI l5), (6, aI v5), (7, aI v8)]) (st' := [aR 48 0]) (cs' := []) (fun _ => rfl) al0 ?_
  obtain ⟨v11, Y9, hv10, h⟩ := bd_some h
  refine l_cV1 (n := m + 6) (b' := 0) k334 (sn_163  _ _ hv10) rfl (st := []) rfl ?_
  refine l_sg k334 1 (pc' := 1251) (ls' := [(0, aR 68 0), (1, aR 0 0), (2, aR 48 0), (3, aR 66 0), (4, aR 67 0), (5, aI l5), (6, aI v5), (7, aI v8)]) (st' := [aI v5, aI v11]) (cs' := []) (fun _ => rfl) al0 ?_
  refine l_icmp_eq k334 rfl (fun c => ?_) (fun c => ?_)
  · replace h := if_t c h
    refine l_sg k334 1 (pc' := 1258) (ls' := [(0, aR 68 0), (1, aR 0 0), (2, aR 48 0), (3, aR 66 0), (4, aR 67 0), (5, aI l5), (6, aI v5), (7, aI v8)]) (st' := [aI v5]) (cs' := []) (fun _ => rfl) al0 ?_
    refine l_if_ne k334 rfl (fun c => ?_) (fun c => ?_)
    · replace h := if_f c h
      refine l_sg k334 2 (pc' := 2736) (ls' := [(0, aR 68 0), (1, aR 0 0), (2, aR 48 0), (3, aR 66 0), (4, aR 67 0), (5, aI (l5 + (nI 6))), (6, aI v5), (7, aI v8)]) (st' := []) (cs' := []) (fun _ => rfl) al0 ?_
      refine l_sg k334 1 (pc' := 28) (ls' := [(0, aR 68 0), (1, aR 0 0), (2, aR 48 0), (3, aR 66 0), (4, aR 67 0), (5, aI (l5 + (nI 6))), (6, aI v5), (7, aI v8)]) (st' := []) (cs' := []) (fun _ => rfl) al0 ?_
      refine l_ls [(0, aR 68 0), (1, aR 0 0), (2, aR 48 0), (3, aR 66 0), (4, aR 67 0), (5, aI (l5 + (nI 6)))] (lq_c rfl (lq_c rfl (lq_c rfl (lq_c rfl (lq_c rfl (lq_c rfl lq_n)))))) ?_
      obtain rfl := Option.some.inj h
      exact l_mono (hi _ _ rfl)
    · replace h := if_t c h
      refine l_sg k334 6 (pc' := 1268) (ls' := [(0, aR 68 0), (1, aR 0 0), (2, aR 48 0), (3, aR 66 0), (4, aR 67 0), (5, aI l5), (6, aI v5), (7, aI v8)]) (st' := [aI (lg_cmp (gJ Y9.1 66 0 0) ((v8).toInt64))]) (cs' := [vp_in (nI 0) 1]) (fun _ => rfl) (al1 (vin rfl)) ?_
      refine l_if_eq k334 rfl (fun c => ?_) (fun c => ?_)
      · replace h := if_t c h
        refine l_sg k334 2 (pc' := 2736) (ls' := [(0, aR 68 0), (1, aR 0 0), (2, aR 48 0), (3, aR 66 0), (4, aR 67 0), (5, aI (l5 + (nI 6))), (6, aI v5), (7, aI v8)]) (st' := []) (cs' := []) (fun _ => rfl) al0 ?_
        refine l_sg k334 1 (pc' := 28) (ls' := [(0, aR 68 0), (1, aR 0 0), (2, aR 48 0), (3, aR 66 0), (4, aR 67 0), (5, aI (l5 + (nI 6))), (6, aI v5), (7, aI v8)]) (st' := []) (cs' := []) (fun _ => rfl) al0 ?_
        refine l_ls [(0, aR 68 0), (1, aR 0 0), (2, aR 48 0), (3, aR 66 0), (4, aR 67 0), (5, aI (l5 + (nI 6)))] (lq_c rfl (lq_c rfl (lq_c rfl (lq_c rfl (lq_c rfl (lq_c rfl lq_n)))))) ?_
        obtain rfl := Option.some.inj h
        exact l_mono (hi _ _ rfl)
      · replace h := if_f c h
        refine l_sg k334 1 (pc' := 1272) (ls' := [(0, aR 68 0), (1, aR 0 0), (2, aR 48 0), (3, aR 66 0), (4, aR 67 0), (5, aI l5), (6, aI v5), (7, aI v8)]) (st' := [aI (nI 0)]) (cs' := []) (fun _ => rfl) al0 ?_
        obtain rfl := Option.some.inj h
        exact l_zreturn k334 (Or.inl rfl) (hr _ rfl)
  · replace h := if_f c h
    refine l_sg k334 1 (pc' := 1255) (ls' := [(0, aR 68 0), (1, aR 0 0), (2, aR 48 0), (3, aR 66 0), (4, aR 67 0), (5, aI l5), (6, aI v5), (7, aI v8)]) (st' := [aI (nI 0)]) (cs' := []) (fun _ => rfl) al0 ?_
    obtain rfl := Option.some.inj h
    exact l_zreturn k334 (Or.inl rfl) (hr _ rfl)
def fn_334_J1276 (L : Nat) (l5 : Int32) (Y : Sm) : Option ((Int32 × Sm) ⊕ (Int32 × Sm)) :=
  ck (inb (l5 + (nI 1)) L) <| bd (fn_312 (gI Y.1 68 0 (ix (l5 + (nI 1)))) Y) fun v4 Y2 => bd (fn_248 (gI Y2.1 68 0 (ix (l5 + (nI 1)))) Y2) fun v7 Y5 => bd (fn_163 Y5) fun v10 Y8 => (if v10 = v4 then (if v4 = (nI 0) then (if v7 = (nI 0) then (if (lg_cmp (gJ Y8.1 66 0 0) (Int64.ofNat 0)) = (nI 0) then some (.inl ((l5 + (nI 6)), Y8)) else some (.inr ((nI 0), Y8))) else (if (lg_cmp (gJ Y8.1 66 0 0) (Int64.ofNat 1)) = (nI 0) then some (.inl ((l5 + (nI 6)), Y8)) else some (.inr ((nI 0), Y8)))) else some (.inl ((l5 + (nI 6)), Y8))) else some (.inr ((nI 0), Y8)))
set_option maxRecDepth 20000 in
set_option maxHeartbeats 4000000 in
theorem sn_334_J1276 {L B m : Nat} {l5 : Int32} {Y : Sm} {q : (Int32 × Sm) ⊕ (Int32 × Sm)} {P : Option Av → Sm → Prop} {E : Nat → Sm → Prop} (hi : ∀ i Z, q = .inl (i, Z) → Wl L 16 B m 28 [(0, aR 68 0), (1, aR 0 0), (2, aR 48 0), (3, aR 66 0), (4, aR 67 0), (5, aI i)] [] Z P E) (hr : ∀ o : Int32 × Sm, q = .inr o → P (some (aI o.1)) o.2) (h : fn_334_J1276 L l5 Y = some q) : Wl L 16 B (m + 8) 1276 [(0, aR 68 0), (1, aR 0 0), (2, aR 48 0), (3, aR 66 0), (4, aR 67 0), (5, aI l5)] [] Y P E := by
  unfold fn_334_J1276 at h
  obtain ⟨hc1, h⟩ := ck_some h
  refine l_sg k334 7 (pc' := 1284) (ls' := [(0, aR 68 0), (1, aR 0 0), (2, aR 48 0), (3, aR 66 0), (4, aR 67 0), (5, aI l5)]) (st' := [aR 66 0, aI (gI Y.1 68 0 (ix (l5 + (nI 1)))), aR 0 0]) (cs' := [vp_in (l5 + (nI 1)) L]) (fun _ => rfl) (al1 (vin hc1)) ?_
  obtain ⟨v4, Y2, hv3, h⟩ := bd_some h
  refine l_cS1 (n := m + 7) (b' := 1) k334 (sn_312 _ _ _ hv3) rfl (st := []) rfl ?_
  refine l_sg k334 1 (pc' := 1289) (ls' := [(0, aR 68 0), (1, aR 0 0), (2, aR 48 0), (3, aR 66 0), (4, aR 67 0), (5, aI l5), (6, aI v4)]) (st' := []) (cs' := []) (fun _ => rfl) al0 ?_
  refine l_sg k334 6 (pc' := 1296) (ls' := [(0, aR 68 0), (1, aR 0 0), (2, aR 48 0), (3, aR 66 0), (4, aR 67 0), (5, aI l5), (6, aI v4)]) (st' := [aI (gI Y2.1 68 0 (ix (l5 + (nI 1)))), aR 48 0]) (cs' := [vp_in (l5 + (nI 1)) L]) (fun _ => rfl) (al1 (vin hc1)) ?_
  obtain ⟨v7, Y5, hv6, h⟩ := bd_some h
  refine l_cV1 (n := m + 7) (b' := 0) k334 (sn_248 _ _ _ hv6) rfl (st := []) rfl ?_
  refine l_sg k334 1 (pc' := 1301) (ls' := [(0, aR 68 0), (1, aR 0 0), (2, aR 48 0), (3, aR 66 0), (4, aR 67 0), (5, aI l5), (6, aI v4), (7, aI v7)]) (st' := []) (cs' := []) (fun _ => rfl) al0 ?_
  refine l_sg k334 1 (pc' := 1302) (ls' := [(0, aR 68 0), (1, aR 0 0), (2, aR 48 0), (3, aR 66 0), (4, aR 67 0), (5, aI l5), (6, aI v4), (7, aI v7)]) (st' := [aR 48 0]) (cs' := []) (fun _ => rfl) al0 ?_
  obtain ⟨v10, Y8, hv9, h⟩ := bd_some h
  refine l_cV1 (n := m + 7) (b' := 0) k334 (sn_163  _ _ hv9) rfl (st := []) rfl ?_
  refine l_sg k334 1 (pc' := 1307) (ls' := [(0, aR 68 0), (1, aR 0 0), (2, aR 48 0), (3, aR 66 0), (4, aR 67 0), (5, aI l5), (6, aI v4), (7, aI v7)]) (st' := [aI v4, aI v10]) (cs' := []) (fun _ => rfl) al0 ?_
  refine l_icmp_eq k334 rfl (fun c => ?_) (fun c => ?_)
  · replace h := if_t c h
    refine l_sg k334 1 (pc' := 1314) (ls' := [(0, aR 68 0), (1, aR 0 0), (2, aR 48 0), (3, aR 66 0), (4, aR 67 0), (5, aI l5), (6, aI v4), (7, aI v7)]) (st' := [aI v4]) (cs' := []) (fun _ => rfl) al0 ?_
    refine l_if_ne k334 rfl (fun c => ?_) (fun c => ?_)
    · replace h := if_f c h
      refine l_sg k334 2 (pc' := 2736) (ls' := [(0, aR 68 0), (1, aR 0 0), (2, aR 48 0), (3, aR 66 0), (4, aR 67 0), (5, aI (l5 + (nI 6))), (6, aI v4), (7, aI v7)]) (st' := []) (cs' := []) (fun _ => rfl) al0 ?_
      refine l_sg k334 1 (pc' := 28) (ls' := [(0, aR 68 0), (1, aR 0 0), (2, aR 48 0), (3, aR 66 0), (4, aR 67 0), (5, aI (l5 + (nI 6))), (6, aI v4), (7, aI v7)]) (st' := []) (cs' := []) (fun _ => rfl) al0 ?_
      refine l_ls [(0, aR 68 0), (1, aR 0 0), (2, aR 48 0), (3, aR 66 0), (4, aR 67 0), (5, aI (l5 + (nI 6)))] (lq_c rfl (lq_c rfl (lq_c rfl (lq_c rfl (lq_c rfl (lq_c rfl lq_n)))))) ?_
      obtain rfl := Option.some.inj h
      exact l_mono (hi _ _ rfl)
    · replace h := if_t c h
      refine l_sg k334 4 (pc' := 1322) (ls' := [(0, aR 68 0), (1, aR 0 0), (2, aR 48 0), (3, aR 66 0), (4, aR 67 0), (5, aI l5), (6, aI v4), (7, aI v7)]) (st' := [aI v7, aJ (gJ Y8.1 66 0 0)]) (cs' := [vp_in (nI 0) 1]) (fun _ => rfl) (al1 (vin rfl)) ?_
      refine l_if_eq k334 rfl (fun c => ?_) (fun c => ?_)
      · replace h := if_t c h
        refine l_sg k334 2 (pc' := 1331) (ls' := [(0, aR 68 0), (1, aR 0 0), (2, aR 48 0), (3, aR 66 0), (4, aR 67 0), (5, aI l5), (6, aI v4), (7, aI v7)]) (st' := [aI (lg_cmp (gJ Y8.1 66 0 0) (Int64.ofNat 0))]) (cs' := []) (fun _ => rfl) al0 ?_
        refine l_if_eq k334 rfl (fun c => ?_) (fun c => ?_)
        · replace h := if_t c h
          refine l_sg k334 2 (pc' := 2736) (ls' := [(0, aR 68 0), (1, aR 0 0), (2, aR 48 0), (3, aR 66 0), (4, aR 67 0), (5, aI (l5 + (nI 6))), (6, aI v4), (7, aI v7)]) (st' := []) (cs' := []) (fun _ => rfl) al0 ?_
          refine l_sg k334 1 (pc' := 28) (ls' := [(0, aR 68 0), (1, aR 0 0), (2, aR 48 0), (3, aR 66 0), (4, aR 67 0), (5, aI (l5 + (nI 6))), (6, aI v4), (7, aI v7)]) (st' := []) (cs' := []) (fun _ => rfl) al0 ?_
          refine l_ls [(0, aR 68 0), (1, aR 0 0), (2, aR 48 0), (3, aR 66 0), (4, aR 67 0), (5, aI (l5 + (nI 6)))] (lq_c rfl (lq_c rfl (lq_c rfl (lq_c rfl (lq_c rfl (lq_c rfl lq_n)))))) ?_
          obtain rfl := Option.some.inj h
          exact l_mono (hi _ _ rfl)
        · replace h := if_f c h
          refine l_sg k334 1 (pc' := 1335) (ls' := [(0, aR 68 0), (1, aR 0 0), (2, aR 48 0), (3, aR 66 0), (4, aR 67 0), (5, aI l5), (6, aI v4), (7, aI v7)]) (st' := [aI (nI 0)]) (cs' := []) (fun _ => rfl) al0 ?_
          obtain rfl := Option.some.inj h
          exact l_zreturn k334 (Or.inl rfl) (hr _ rfl)
      · replace h := if_f c h
        refine l_sg k334 3 (pc' := 1331) (ls' := [(0, aR 68 0), (1, aR 0 0), (2, aR 48 0), (3, aR 66 0), (4, aR 67 0), (5, aI l5), (6, aI v4), (7, aI v7)]) (st' := [aI (lg_cmp (gJ Y8.1 66 0 0) (Int64.ofNat 1))]) (cs' := []) (fun _ => rfl) al0 ?_
        refine l_if_eq k334 rfl (fun c => ?_) (fun c => ?_)
        · replace h := if_t c h
          refine l_sg k334 2 (pc' := 2736) (ls' := [(0, aR 68 0), (1, aR 0 0), (2, aR 48 0), (3, aR 66 0), (4, aR 67 0), (5, aI (l5 + (nI 6))), (6, aI v4), (7, aI v7)]) (st' := []) (cs' := []) (fun _ => rfl) al0 ?_
          refine l_sg k334 1 (pc' := 28) (ls' := [(0, aR 68 0), (1, aR 0 0), (2, aR 48 0), (3, aR 66 0), (4, aR 67 0), (5, aI (l5 + (nI 6))), (6, aI v4), (7, aI v7)]) (st' := []) (cs' := []) (fun _ => rfl) al0 ?_
          refine l_ls [(0, aR 68 0), (1, aR 0 0), (2, aR 48 0), (3, aR 66 0), (4, aR 67 0), (5, aI (l5 + (nI 6)))] (lq_c rfl (lq_c rfl (lq_c rfl (lq_c rfl (lq_c rfl (lq_c rfl lq_n)))))) ?_
          obtain rfl := Option.some.inj h
          exact l_mono (hi _ _ rfl)
        · replace h := if_f c h
          refine l_sg k334 1 (pc' := 1335) (ls' := [(0, aR 68 0), (1, aR 0 0), (2, aR 48 0), (3, aR 66 0), (4, aR 67 0), (5, aI l5), (6, aI v4), (7, aI v7)]) (st' := [aI (nI 0)]) (cs' := []) (fun _ => rfl) al0 ?_
          obtain rfl := Option.some.inj h
          exact l_zreturn k334 (Or.inl rfl) (hr _ rfl)
  · replace h := if_f c h
    refine l_sg k334 1 (pc' := 1311) (ls' := [(0, aR 68 0), (1, aR 0 0), (2, aR 48 0), (3, aR 66 0), (4, aR 67 0), (5, aI l5), (6, aI v4), (7, aI v7)]) (st' := [aI (nI 0)]) (cs' := []) (fun _ => rfl) al0 ?_
    obtain rfl := Option.some.inj h
    exact l_zreturn k334 (Or.inl rfl) (hr _ rfl)
def fn_334_J1339 (L : Nat) (l5 : Int32) (Y : Sm) : Option ((Int32 × Sm) ⊕ (Int32 × Sm)) :=
  bd (fn_126 Y) fun v3 Y1 => bd (fn_245 Y1) fun v6 Y4 => (if v3 = v6 then some (.inl ((l5 + (nI 6)), Y4)) else some (.inr ((nI 0), Y4)))
set_option maxRecDepth 20000 in
set_option maxHeartbeats 4000000 in
theorem sn_334_J1339 {L B m : Nat} {l5 : Int32} {Y : Sm} {q : (Int32 × Sm) ⊕ (Int32 × Sm)} {P : Option Av → Sm → Prop} {E : Nat → Sm → Prop} (hi : ∀ i Z, q = .inl (i, Z) → Wl L 16 B m 28 [(0, aR 68 0), (1, aR 0 0), (2, aR 48 0), (3, aR 66 0), (4, aR 67 0), (5, aI i)] [] Z P E) (hr : ∀ o : Int32 × Sm, q = .inr o → P (some (aI o.1)) o.2) (h : fn_334_J1339 L l5 Y = some q) : Wl L 16 B (m + 8) 1339 [(0, aR 68 0), (1, aR 0 0), (2, aR 48 0), (3, aR 66 0), (4, aR 67 0), (5, aI l5)] [] Y P E := by
  unfold fn_334_J1339 at h
  refine l_sg k334 1 (pc' := 1340) (ls' := [(0, aR 68 0), (1, aR 0 0), (2, aR 48 0), (3, aR 66 0), (4, aR 67 0), (5, aI l5)]) (st' := [aR 0 0]) (cs' := []) (fun _ => rfl) al0 ?_
  obtain ⟨v3, Y1, hv2, h⟩ := bd_some h
  refine l_cV1 (n := m + 8) (b' := 0) k334 (sn_126  _ _ hv2) rfl (st := []) rfl ?_
  refine l_sg k334 1 (pc' := 1344) (ls' := [(0, aR 68 0), (1, aR 0 0), (2, aR 48 0), (3, aR 66 0), (4, aR 67 0), (5, aI l5)]) (st' := [aR 48 0, aI v3]) (cs' := []) (fun _ => rfl) al0 ?_
  obtain ⟨v6, Y4, hv5, h⟩ := bd_some h
  refine l_cV1 (n := m + 8) (b' := 0) k334 (sn_245  _ _ hv5) rfl (st := [aI v3]) rfl ?_
  refine l_icmp_eq k334 rfl (fun c => ?_) (fun c => ?_)
  · replace h := if_t c h
    refine l_sg k334 1 (pc' := 2736) (ls' := [(0, aR 68 0), (1, aR 0 0), (2, aR 48 0), (3, aR 66 0), (4, aR 67 0), (5, aI (l5 + (nI 6)))]) (st' := []) (cs' := []) (fun _ => rfl) al0 ?_
    refine l_sg k334 1 (pc' := 28) (ls' := [(0, aR 68 0), (1, aR 0 0), (2, aR 48 0), (3, aR 66 0), (4, aR 67 0), (5, aI (l5 + (nI 6)))]) (st' := []) (cs' := []) (fun _ => rfl) al0 ?_
    refine l_ls [(0, aR 68 0), (1, aR 0 0), (2, aR 48 0), (3, aR 66 0), (4, aR 67 0), (5, aI (l5 + (nI 6)))] (lq_c rfl (lq_c rfl (lq_c rfl (lq_c rfl (lq_c rfl (lq_c rfl lq_n)))))) ?_
    obtain rfl := Option.some.inj h
    exact l_mono (hi _ _ rfl)
  · replace h := if_f c h
    refine l_sg k334 1 (pc' := 1351) (ls' := [(0, aR 68 0), (1, aR 0 0), (2, aR 48 0), (3, aR 66 0), (4, aR 67 0), (5, aI l5)]) (st' := [aI (nI 0)]) (cs' := []) (fun _ => rfl) al0 ?_
    obtain rfl := Option.some.inj h
    exact l_zreturn k334 (Or.inl rfl) (hr _ rfl)
def fn_334_J1352 (L : Nat) (l5 : Int32) (Y : Sm) : Option ((Int32 × Sm) ⊕ (Int32 × Sm)) :=
  ck (inb (l5 + (nI 1)) L) <| ck (inb (l5 + (nI 2)) L) <| bd (fn_313 (gI Y.1 68 0 (ix (l5 + (nI 1)))) (gI Y.1 68 0 (ix (l5 + (nI 2)))) Y) fun v5 Y3 => bd (fn_247 (gI Y3.1 68 0 (ix (l5 + (nI 1)))) (gI Y3.1 68 0 (ix (l5 + (nI 2)))) Y3) fun v8 Y6 => bd (fn_163 Y6) fun v11 Y9 => (if v11 = v5 then (if v5 = (nI 0) then (if (lg_cmp (gJ Y9.1 66 0 0) ((v8).toInt64)) = (nI 0) then some (.inl ((l5 + (nI 6)), Y9)) else some (.inr ((nI 0), Y9))) else some (.inl ((l5 + (nI 6)), Y9))) else some (.inr ((nI 0), Y9)))
set_option maxRecDepth 20000 in
set_option maxHeartbeats 4000000 in
theorem sn_334_J1352 {L B m : Nat} {l5 : Int32} {Y : Sm} {q : (Int32 × Sm) ⊕ (Int32 × Sm)} {P : Option Av → Sm → Prop} {E : Nat → Sm → Prop} (hi : ∀ i Z, q = .inl (i, Z) → Wl L 16 B m 28 [(0, aR 68 0), (1, aR 0 0), (2, aR 48 0), (3, aR 66 0), (4, aR 67 0), (5, aI i)] [] Z P E) (hr : ∀ o : Int32 × Sm, q = .inr o → P (some (aI o.1)) o.2) (h : fn_334_J1352 L l5 Y = some q) : Wl L 16 B (m + 8) 1352 [(0, aR 68 0), (1, aR 0 0), (2, aR 48 0), (3, aR 66 0), (4, aR 67 0), (5, aI l5)] [] Y P E := by
  unfold fn_334_J1352 at h
  obtain ⟨hc1, h⟩ := ck_some h
  refine l_sg k334 8 (pc' := 1362) (ls' := [(0, aR 68 0), (1, aR 0 0), (2, aR 48 0), (3, aR 66 0), (4, aR 67 0), (5, aI l5)]) (st' := [aI l5, aR 68 0, aI (gI Y.1 68 0 (ix (l5 + (nI 1)))), aR 0 0]) (cs' := [vp_in (l5 + (nI 1)) L]) (fun _ => rfl) (al1 (vin hc1)) ?_
  obtain ⟨hc2, h⟩ := ck_some h
  refine l_sg k334 4 (pc' := 1366) (ls' := [(0, aR 68 0), (1, aR 0 0), (2, aR 48 0), (3, aR 66 0), (4, aR 67 0), (5, aI l5)]) (st' := [aR 66 0, aI (gI Y.1 68 0 (ix (l5 + (nI 2)))), aI (gI Y.1 68 0 (ix (l5 + (nI 1)))), aR 0 0]) (cs' := [vp_in (l5 + (nI 2)) L]) (fun _ => rfl) (al1 (vin hc2)) ?_
  obtain ⟨v5, Y3, hv4, h⟩ := bd_some h
  refine l_cS1 (n := m + 6) (b' := 2) k334 (sn_313 _ _ _ _ hv4) rfl (st := []) rfl ?_
  refine l_sg k334 1 (pc' := 1371) (ls' := [(0, aR 68 0), (1, aR 0 0), (2, aR 48 0), (3, aR 66 0), (4, aR 67 0), (5, aI l5), (6, aI v5)]) (st' := []) (cs' := []) (fun _ => rfl) al0 ?_
  refine l_sg k334 8 (pc' := 1381) (ls' := [(0, aR 68 0), (1, aR 0 0), (2, aR 48 0), (3, aR 66 0), (4, aR 67 0), (5, aI l5), (6, aI v5)]) (st' := [aI l5, aR 68 0, aI (gI Y3.1 68 0 (ix (l5 + (nI 1)))), aR 48 0]) (cs' := [vp_in (l5 + (nI 1)) L]) (fun _ => rfl) (al1 (vin hc1)) ?_
  refine l_sg k334 3 (pc' := 1384) (ls' := [(0, aR 68 0), (1, aR 0 0), (2, aR 48 0), (3, aR 66 0), (4, aR 67 0), (5, aI l5), (6, aI v5)]) (st' := [aI (gI Y3.1 68 0 (ix (l5 + (nI 2)))), aI (gI Y3.1 68 0 (ix (l5 + (nI 1)))), aR 48 0]) (cs' := [vp_in (l5 + (nI 2)) L]) (fun _ => rfl) (al1 (vin hc2)) ?_
  obtain ⟨v8, Y6, hv7, h⟩ := bd_some h
  refine l_cV1 (n := m + 6) (b' := 0) k334 (sn_247 _ _ _ _ hv7) rfl (st := []) rfl ?_
  refine l_sg k334 1 (pc' := 1389) (ls' := [(0, aR 68 0), (1, aR 0 0), (2, aR 48 0), (3, aR 66 0), (4, aR 67 0), (5, aI l5), (6, aI v5), (7, aI v8)]) (st' := []) (cs' := []) (fun _ => rfl) al0 ?_
  refine l_sg k334 1 (pc' := 1390) (ls' := [(0, aR 68 0), (1, aR 0 0), (2, aR 48 0), (3, aR 66 0), (4, aR 67 0), (5, aI l5), (6, aI v5), (7, aI v8)]) (st' := [aR 48 0]) (cs' := []) (fun _ => rfl) al0 ?_
  obtain ⟨v11, Y9, hv10, h⟩ := bd_some h
  refine l_cV1 (n := m + 6) (b' := 0) k334 (sn_163  _ _ hv10) rfl (st := []) rfl ?_
  refine l_sg k334 1 (pc' := 1395) (ls' := [(0, aR 68 0), (1, aR 0 0), (2, aR 48 0), (3, aR 66 0), (4, aR 67 0), (5, aI l5), (6, aI v5), (7, aI v8)]) (st' := [aI v5, aI v11]) (cs' := []) (fun _ => rfl) al0 ?_
  refine l_icmp_eq k334 rfl (fun c => ?_) (fun c => ?_)
  · replace h := if_t c h
    refine l_sg k334 1 (pc' := 1402) (ls' := [(0, aR 68 0), (1, aR 0 0), (2, aR 48 0), (3, aR 66 0), (4, aR 67 0), (5, aI l5), (6, aI v5), (7, aI v8)]) (st' := [aI v5]) (cs' := []) (fun _ => rfl) al0 ?_
    refine l_if_ne k334 rfl (fun c => ?_) (fun c => ?_)
    · replace h := if_f c h
      refine l_sg k334 2 (pc' := 2736) (ls' := [(0, aR 68 0), (1, aR 0 0), (2, aR 48 0), (3, aR 66 0), (4, aR 67 0), (5, aI (l5 + (nI 6))), (6, aI v5), (7, aI v8)]) (st' := []) (cs' := []) (fun _ => rfl) al0 ?_
      refine l_sg k334 1 (pc' := 28) (ls' := [(0, aR 68 0), (1, aR 0 0), (2, aR 48 0), (3, aR 66 0), (4, aR 67 0), (5, aI (l5 + (nI 6))), (6, aI v5), (7, aI v8)]) (st' := []) (cs' := []) (fun _ => rfl) al0 ?_
      refine l_ls [(0, aR 68 0), (1, aR 0 0), (2, aR 48 0), (3, aR 66 0), (4, aR 67 0), (5, aI (l5 + (nI 6)))] (lq_c rfl (lq_c rfl (lq_c rfl (lq_c rfl (lq_c rfl (lq_c rfl lq_n)))))) ?_
      obtain rfl := Option.some.inj h
      exact l_mono (hi _ _ rfl)
    · replace h := if_t c h
      refine l_sg k334 6 (pc' := 1412) (ls' := [(0, aR 68 0), (1, aR 0 0), (2, aR 48 0), (3, aR 66 0), (4, aR 67 0), (5, aI l5), (6, aI v5), (7, aI v8)]) (st' := [aI (lg_cmp (gJ Y9.1 66 0 0) ((v8).toInt64))]) (cs' := [vp_in (nI 0) 1]) (fun _ => rfl) (al1 (vin rfl)) ?_
      refine l_if_eq k334 rfl (fun c => ?_) (fun c => ?_)
      · replace h := if_t c h
        refine l_sg k334 2 (pc' := 2736) (ls' := [(0, aR 68 0), (1, aR 0 0), (2, aR 48 0), (3, aR 66 0), (4, aR 67 0), (5, aI (l5 + (nI 6))), (6, aI v5), (7, aI v8)]) (st' := []) (cs' := []) (fun _ => rfl) al0 ?_
        refine l_sg k334 1 (pc' := 28) (ls' := [(0, aR 68 0), (1, aR 0 0), (2, aR 48 0), (3, aR 66 0), (4, aR 67 0), (5, aI (l5 + (nI 6))), (6, aI v5), (7, aI v8)]) (st' := []) (cs' := []) (fun _ => rfl) al0 ?_
        refine l_ls [(0, aR 68 0), (1, aR 0 0), (2, aR 48 0), (3, aR 66 0), (4, aR 67 0), (5, aI (l5 + (nI 6)))] (lq_c rfl (lq_c rfl (lq_c rfl (lq_c rfl (lq_c rfl (lq_c rfl lq_n)))))) ?_
        obtain rfl := Option.some.inj h
        exact l_mono (hi _ _ rfl)
      · replace h := if_f c h
        refine l_sg k334 1 (pc' := 1416) (ls' := [(0, aR 68 0), (1, aR 0 0), (2, aR 48 0), (3, aR 66 0), (4, aR 67 0), (5, aI l5), (6, aI v5), (7, aI v8)]) (st' := [aI (nI 0)]) (cs' := []) (fun _ => rfl) al0 ?_
        obtain rfl := Option.some.inj h
        exact l_zreturn k334 (Or.inl rfl) (hr _ rfl)
  · replace h := if_f c h
    refine l_sg k334 1 (pc' := 1399) (ls' := [(0, aR 68 0), (1, aR 0 0), (2, aR 48 0), (3, aR 66 0), (4, aR 67 0), (5, aI l5), (6, aI v5), (7, aI v8)]) (st' := [aI (nI 0)]) (cs' := []) (fun _ => rfl) al0 ?_
    obtain rfl := Option.some.inj h
    exact l_zreturn k334 (Or.inl rfl) (hr _ rfl)
def fn_334_J1420 (L : Nat) (l5 : Int32) (Y : Sm) : Option ((Int32 × Sm) ⊕ (Int32 × Sm)) :=
  ck (inb (l5 + (nI 1)) L) <| bd (fn_314 (gI Y.1 68 0 (ix (l5 + (nI 1)))) Y) fun v4 Y2 => bd (fn_250 (gI Y2.1 68 0 (ix (l5 + (nI 1)))) Y2) fun v7 Y5 => bd (fn_163 Y5) fun v10 Y8 => (if v10 = v4 then (if v4 = (nI 0) then (if (lg_cmp (gJ Y8.1 66 0 0) ((v7).toInt64)) = (nI 0) then some (.inl ((l5 + (nI 6)), Y8)) else some (.inr ((nI 0), Y8))) else some (.inl ((l5 + (nI 6)), Y8))) else some (.inr ((nI 0), Y8)))
set_option maxRecDepth 20000 in
set_option maxHeartbeats 4000000 in
theorem sn_334_J1420 {L B m : Nat} {l5 : Int32} {Y : Sm} {q : (Int32 × Sm) ⊕ (Int32 × Sm)} {P : Option Av → Sm → Prop} {E : Nat → Sm → Prop} (hi : ∀ i Z, q = .inl (i, Z) → Wl L 16 B m 28 [(0, aR 68 0), (1, aR 0 0), (2, aR 48 0), (3, aR 66 0), (4, aR 67 0), (5, aI i)] [] Z P E) (hr : ∀ o : Int32 × Sm, q = .inr o → P (some (aI o.1)) o.2) (h : fn_334_J1420 L l5 Y = some q) : Wl L 16 B (m + 8) 1420 [(0, aR 68 0), (1, aR 0 0), (2, aR 48 0), (3, aR 66 0), (4, aR 67 0), (5, aI l5)] [] Y P E := by
  unfold fn_334_J1420 at h
  obtain ⟨hc1, h⟩ := ck_some h
  refine l_sg k334 7 (pc' := 1428) (ls' := [(0, aR 68 0), (1, aR 0 0), (2, aR 48 0), (3, aR 66 0), (4, aR 67 0), (5, aI l5)]) (st' := [aR 66 0, aI (gI Y.1 68 0 (ix (l5 + (nI 1)))), aR 0 0]) (cs' := [vp_in (l5 + (nI 1)) L]) (fun _ => rfl) (al1 (vin hc1)) ?_
  obtain ⟨v4, Y2, hv3, h⟩ := bd_some h
  refine l_cS1 (n := m + 7) (b' := 1) k334 (sn_314 _ _ _ hv3) rfl (st := []) rfl ?_
  refine l_sg k334 1 (pc' := 1433) (ls' := [(0, aR 68 0), (1, aR 0 0), (2, aR 48 0), (3, aR 66 0), (4, aR 67 0), (5, aI l5), (6, aI v4)]) (st' := []) (cs' := []) (fun _ => rfl) al0 ?_
  refine l_sg k334 6 (pc' := 1440) (ls' := [(0, aR 68 0), (1, aR 0 0), (2, aR 48 0), (3, aR 66 0), (4, aR 67 0), (5, aI l5), (6, aI v4)]) (st' := [aI (gI Y2.1 68 0 (ix (l5 + (nI 1)))), aR 48 0]) (cs' := [vp_in (l5 + (nI 1)) L]) (fun _ => rfl) (al1 (vin hc1)) ?_
  obtain ⟨v7, Y5, hv6, h⟩ := bd_some h
  refine l_cV1 (n := m + 7) (b' := 0) k334 (sn_250 _ _ _ hv6) rfl (st := []) rfl ?_
  refine l_sg k334 1 (pc' := 1445) (ls' := [(0, aR 68 0), (1, aR 0 0), (2, aR 48 0), (3, aR 66 0), (4, aR 67 0), (5, aI l5), (6, aI v4), (7, aI v7)]) (st' := []) (cs' := []) (fun _ => rfl) al0 ?_
  refine l_sg k334 1 (pc' := 1446) (ls' := [(0, aR 68 0), (1, aR 0 0), (2, aR 48 0), (3, aR 66 0), (4, aR 67 0), (5, aI l5), (6, aI v4), (7, aI v7)]) (st' := [aR 48 0]) (cs' := []) (fun _ => rfl) al0 ?_
  obtain ⟨v10, Y8, hv9, h⟩ := bd_some h
  refine l_cV1 (n := m + 7) (b' := 0) k334 (sn_163  _ _ hv9) rfl (st := []) rfl ?_
  refine l_sg k334 1 (pc' := 1451) (ls' := [(0, aR 68 0), (1, aR 0 0), (2, aR 48 0), (3, aR 66 0), (4, aR 67 0), (5, aI l5), (6, aI v4), (7, aI v7)]) (st' := [aI v4, aI v10]) (cs' := []) (fun _ => rfl) al0 ?_
  refine l_icmp_eq k334 rfl (fun c => ?_) (fun c => ?_)
  · replace h := if_t c h
    refine l_sg k334 1 (pc' := 1458) (ls' := [(0, aR 68 0), (1, aR 0 0), (2, aR 48 0), (3, aR 66 0), (4, aR 67 0), (5, aI l5), (6, aI v4), (7, aI v7)]) (st' := [aI v4]) (cs' := []) (fun _ => rfl) al0 ?_
    refine l_if_ne k334 rfl (fun c => ?_) (fun c => ?_)
    · replace h := if_f c h
      refine l_sg k334 2 (pc' := 2736) (ls' := [(0, aR 68 0), (1, aR 0 0), (2, aR 48 0), (3, aR 66 0), (4, aR 67 0), (5, aI (l5 + (nI 6))), (6, aI v4), (7, aI v7)]) (st' := []) (cs' := []) (fun _ => rfl) al0 ?_
      refine l_sg k334 1 (pc' := 28) (ls' := [(0, aR 68 0), (1, aR 0 0), (2, aR 48 0), (3, aR 66 0), (4, aR 67 0), (5, aI (l5 + (nI 6))), (6, aI v4), (7, aI v7)]) (st' := []) (cs' := []) (fun _ => rfl) al0 ?_
      refine l_ls [(0, aR 68 0), (1, aR 0 0), (2, aR 48 0), (3, aR 66 0), (4, aR 67 0), (5, aI (l5 + (nI 6)))] (lq_c rfl (lq_c rfl (lq_c rfl (lq_c rfl (lq_c rfl (lq_c rfl lq_n)))))) ?_
      obtain rfl := Option.some.inj h
      exact l_mono (hi _ _ rfl)
    · replace h := if_t c h
      refine l_sg k334 6 (pc' := 1468) (ls' := [(0, aR 68 0), (1, aR 0 0), (2, aR 48 0), (3, aR 66 0), (4, aR 67 0), (5, aI l5), (6, aI v4), (7, aI v7)]) (st' := [aI (lg_cmp (gJ Y8.1 66 0 0) ((v7).toInt64))]) (cs' := [vp_in (nI 0) 1]) (fun _ => rfl) (al1 (vin rfl)) ?_
      refine l_if_eq k334 rfl (fun c => ?_) (fun c => ?_)
      · replace h := if_t c h
        refine l_sg k334 2 (pc' := 2736) (ls' := [(0, aR 68 0), (1, aR 0 0), (2, aR 48 0), (3, aR 66 0), (4, aR 67 0), (5, aI (l5 + (nI 6))), (6, aI v4), (7, aI v7)]) (st' := []) (cs' := []) (fun _ => rfl) al0 ?_
        refine l_sg k334 1 (pc' := 28) (ls' := [(0, aR 68 0), (1, aR 0 0), (2, aR 48 0), (3, aR 66 0), (4, aR 67 0), (5, aI (l5 + (nI 6))), (6, aI v4), (7, aI v7)]) (st' := []) (cs' := []) (fun _ => rfl) al0 ?_
        refine l_ls [(0, aR 68 0), (1, aR 0 0), (2, aR 48 0), (3, aR 66 0), (4, aR 67 0), (5, aI (l5 + (nI 6)))] (lq_c rfl (lq_c rfl (lq_c rfl (lq_c rfl (lq_c rfl (lq_c rfl lq_n)))))) ?_
        obtain rfl := Option.some.inj h
        exact l_mono (hi _ _ rfl)
      · replace h := if_f c h
        refine l_sg k334 1 (pc' := 1472) (ls' := [(0, aR 68 0), (1, aR 0 0), (2, aR 48 0), (3, aR 66 0), (4, aR 67 0), (5, aI l5), (6, aI v4), (7, aI v7)]) (st' := [aI (nI 0)]) (cs' := []) (fun _ => rfl) al0 ?_
        obtain rfl := Option.some.inj h
        exact l_zreturn k334 (Or.inl rfl) (hr _ rfl)
  · replace h := if_f c h
    refine l_sg k334 1 (pc' := 1455) (ls' := [(0, aR 68 0), (1, aR 0 0), (2, aR 48 0), (3, aR 66 0), (4, aR 67 0), (5, aI l5), (6, aI v4), (7, aI v7)]) (st' := [aI (nI 0)]) (cs' := []) (fun _ => rfl) al0 ?_
    obtain rfl := Option.some.inj h
    exact l_zreturn k334 (Or.inl rfl) (hr _ rfl)
