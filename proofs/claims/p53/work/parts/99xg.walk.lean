/-! the walk's rows for bytes, references and texts; calls that end anyhow (printed by wip/p53/new/xg.py) -/
section CHK
variable {y : Nat} {xt : List ExceptionTableEntry} {d mc ms : Nat} {wp : Nat → Nat → Prop} {z0 : Zz} {X0 : Mm} {QR : Option Av → Zz → Mm → Prop} {QX : Nat → Zz → Mm → Prop} {z : Zz} {pc : Nat} {ls : Lo} {st : List Av} {X : Mm}
theorem v_chk9 (K : ∀ p, chk y p = true) {v9 : Int32} {cc np : Nat} {i n : Int32} (ht : tb y pc = (80, v9, 9, 232, cc, np)) (hy : cid y = 15) (hr : rok d mc ms z = true) (hs : st.length ≤ 4) (h0 : ¬ i < 0) (h9 : i < n) (kk : V y xt d mc ms wp z0 X0 QR QX z np ls st X) : V y xt d mc ms wp z0 X0 QR QX z pc ls (aI n :: aI i :: st) X := by
  intro l G ad0 p e s m args below meth c0 C ad H locs cells slots la U hl ol os
  obtain ⟨h1, -, h3⟩ := chk_sp K ht rfl
  have h3 : np = pc + 3 := h3.elim (fun q => by cases q) id
  subst h3
  obtain ⟨r1, r2, r3⟩ := rok_of hr
  have hsum := cat_sum G ad st
  obtain ⟨-, -, -, -, -, hS, hc, hsl, -, hA⟩ := id U
  have hKh := U.kh C.2.2.2.2.2.2.2.2.2.2.2
  have hlk : (Cond.methodLink (RN (cid y)) 9 yJ0_checkIndex_df160).before args s = true := by rw [hy]; exact C.2.2.2.2.1 _ jw_k1K
  refine jv_call (v0 := none) (W.runS (Ts := TT) (As := [.int i, .int n]) (rest := st.map (cv G ad)) ⟨C.1, C.2.1, C.2.2.1, C.2.2.2.1, C.2.2.2.2.1⟩ (jc_chk l G i n) ⟨callB_of 2 C.2.2.2.2.1 (fun w hw => ⟨TT_all jw_chkC w hw, good_of_word (List.mem_filter.mp (TT_all jw_chkC w hw)).2⟩) rfl rfl rfl (C.2.2.2.2.1 _ jw_ini) hlk (by decide +kernel) ⟨by show 1 + 1 ≤ d; omega, by show 8 + (2 + 11) + 40 ≤ 40 * d; omega⟩, C.2.2.2.2.1 _ jw_chkS⟩ ⟨fun a U g mk q => ⟨q.1, q.2.1, q.2.2.moved (Vm.Alike.refl U.vm)⟩, fun U2 hU hW => ⟨rfl, ⟨h0, h9⟩, by rw [hU]; exact hKh.moved hW.alike⟩⟩ rfl rfl hl.1 rfl (by show 2 * 0 + _ ≤ 8; omega) h1 ⟨by show _ + 0 ≤ mc; omega, by show _ + 0 ≤ ms; omega⟩) (fun t h => h) ?_
  exact kk l G ad0 p e s m args below meth c0 C ad H locs cells slots la U hl ol (oks_t (oks_t os))
end CHK
section LG
variable {L y d B n pc : Nat} {ls : Lo} {st : List Av} {Y : Sm} {P : Option Av → Sm → Prop} {E : Nat → Sm → Prop}
theorem m_getR (K : ∀ p, chk y p = true) {v : Int32} {a b c np k i n9 k2 i2 : Nat} (ht : tb y pc = (50, v, a, b, c, np)) (h1 : shp k = (0, c, n9)) (h2 : Nat.ble (b + 1) n9 = true) (hf : ft c b = 3) (hr : sr Y.2 k i b = some (k2, i2)) (kk : WL L y d B n np ls (aR k2 i2 :: st) Y P E) : WL L y d B n pc ls (aR k i :: st) Y P E := fun z0 X0 u hu => v_getR K ht h1 h2 hf hr (kk z0 X0 u hu)
theorem m_alenB (K : ∀ p, chk y p = true) {v : Int32} {a b c np k i n9 : Nat} (ht : tb y pc = (61, v, a, b, c, np)) (hk : shp k = (1, 1, n9)) (hk8 : Nat.beq k 68 = false) (kk : WL L y d B n np ls (aI (nI n9) :: st) Y P E) : WL L y d B n pc ls (aR k i :: st) Y P E := fun z0 X0 u hu => v_alenB K ht hk hk8 (kk z0 X0 u hu)
theorem m_baldB (K : ∀ p, chk y p = true) {v j : Int32} {a b c np k i n9 : Nat} (ht : tb y pc = (54, v, a, b, c, np)) (hk : shp k = (1, 1, n9)) (hk8 : Nat.beq k 68 = false) (hj : vp_in j n9) (kk : WL L y d B n np ls (aI (gI Y.1 k i (ix j)) :: st) Y P E) : WL L y d B n pc ls (aI j :: aR k i :: st) Y P E := fun z0 X0 u hu => v_baldB K ht hk hk8 hj (kk z0 X0 u hu)
theorem m_bastB (K : ∀ p, chk y p = true) {v j x : Int32} {a b c np k i n9 : Nat} (ht : tb y pc = (55, v, a, b, c, np)) (hk : shp k = (1, 1, n9)) (hk8 : Nat.beq k 68 = false) (hj : vp_in j n9) (kk : WL L y d B n np ls st (sI Y k i (ix j) x.toInt8.toInt32) P E) : WL L y d B n pc ls (aI x :: aI j :: aR k i :: st) Y P E := fun z0 X0 u hu => v_bastB K ht hk hk8 hj hk8 (kk z0 X0 u hu)
theorem m_getC (K : ∀ p, chk y p = true) {v : Int32} {a b c np : Nat} (ht : tb y pc = (75, v, a, b, c, np)) (hlk : Cond.fieldLink (RN (cid y)) a "java/lang/String" "COMPACT_STRINGS" "Z" ∈ TT) (kk : WL L y d B n np ls (aI (nI 1) :: st) Y P E) : WL L y d B n pc ls st Y P E := fun z0 X0 u hu => v_getC K ht hlk (kk z0 X0 u hu)
theorem m_getD1 (K : ∀ p, chk y p = true) {v : Int32} {a b c np : Nat} (ht : tb y pc = (75, v, a, b, c, np)) (hlk : Cond.fieldLink (RN (cid y)) a "java/lang/Integer" "DigitOnes" "[B" ∈ TT) (kk : WL L y d B n np ls (aX 1 :: st) Y P E) : WL L y d B n pc ls st Y P E := fun z0 X0 u hu => v_getD1 K ht hlk (kk z0 X0 u hu)
theorem m_getD2 (K : ∀ p, chk y p = true) {v : Int32} {a b c np : Nat} (ht : tb y pc = (75, v, a, b, c, np)) (hlk : Cond.fieldLink (RN (cid y)) a "java/lang/Integer" "DigitTens" "[B" ∈ TT) (kk : WL L y d B n np ls (aX 2 :: st) Y P E) : WL L y d B n pc ls st Y P E := fun z0 X0 u hu => v_getD2 K ht hlk (kk z0 X0 u hu)
theorem m_bald1 (K : ∀ p, chk y p = true) {v j : Int32} {a b c np : Nat} (ht : tb y pc = (54, v, a, b, c, np)) (hj : vp_in j 100) (kk : WL L y d B n np ls (aI (dgt 1 (ix j)) :: st) Y P E) : WL L y d B n pc ls (aI j :: aX 1 :: st) Y P E := fun z0 X0 u hu => v_bald1 K ht hj (kk z0 X0 u hu)
theorem m_bald2 (K : ∀ p, chk y p = true) {v j : Int32} {a b c np : Nat} (ht : tb y pc = (54, v, a, b, c, np)) (hj : vp_in j 100) (kk : WL L y d B n np ls (aI (dgt 2 (ix j)) :: st) Y P E) : WL L y d B n pc ls (aI j :: aX 2 :: st) Y P E := fun z0 X0 u hu => v_bald2 K ht hj (kk z0 X0 u hu)
theorem m_ifnn (K : ∀ p, chk y p = true) {v : Int32} {tg b c np : Nat} {x : Av} (ht : tb y pc = (78, v, tg, b, c, np)) (hx : isRf x = true) (kk : WL L y d B n tg ls st Y P E) : WL L y d B n pc ls (x :: st) Y P E := fun z0 X0 u hu => v_ifnn K ht hx (kk z0 X0 u hu)
theorem m_null (K : ∀ p, chk y p = true) {v : Int32} {a b c np : Nat} (ht : tb y pc = (79, v, a, b, c, np)) (kk : WL L y d B n np ls (aX 0 :: st) Y P E) : WL L y d B n pc ls st Y P E := fun z0 X0 u hu => v_null K ht (kk z0 X0 u hu)
theorem m_areturn (K : ∀ p, chk y p = true) {v : Int32} {a b c np : Nat} {x : Av} {t : FieldType} (hq : P (some x) Y) (ht : tb y pc = (76, v, a, b, c, np)) (hrt : rtt y = some t) (h9 : (∃ n, t = .object n) ∨ ∃ t', t = .array t') (hx : isRf x = true) (hd : Nat.ble 4 d = true := by rfl) : WL L y d B n pc ls [x] Y P E := fun z0 X0 u hu => v_areturn K ht hrt h9 hx ⟨Y.2, rfl, rfl, hq⟩ (rokl hd hu)
theorem m_nreturn (K : ∀ p, chk y p = true) {v : Int32} {a b c np : Nat} {x : Int32} {t : FieldType} (hq : P (some (aI x)) Y) (ht : tb y pc = (70, v, a, b, c, np)) (hrt : rtt y = some t) (hn : narrow t (.int x) = .int x) (hd : Nat.ble 4 d = true := by rfl) : WL L y d B n pc ls [aI x] Y P E := fun z0 X0 u hu => v_nreturn K ht hrt hn ⟨Y.2, rfl, rfl, hq⟩ (rokl hd hu)
theorem m_getT (K : ∀ p, chk y p = true) {v : Int32} {a b c np j : Nat} (ht : tb y pc = (50, v, a, b, c, np)) (hlk : Cond.fieldLink (RN (cid y)) a "java/lang/String" "value" "[B" ∈ TT) (kk : WL L y d B n np ls (aX (3 + j) :: st) Y P E) : WL L y d B n pc ls (aS j :: st) Y P E := fun z0 X0 u hu => v_getT K ht hlk (kk z0 X0 u hu)
theorem m_getTc (K : ∀ p, chk y p = true) {v : Int32} {a b c np j : Nat} (ht : tb y pc = (50, v, a, b, c, np)) (hlk : Cond.fieldLink (RN (cid y)) a "java/lang/String" "coder" "B" ∈ TT) (kk : WL L y d B n np ls (aI 0 :: st) Y P E) : WL L y d B n pc ls (aS j :: st) Y P E := fun z0 X0 u hu => v_getTc K ht hlk (kk z0 X0 u hu)
theorem m_alenT (K : ∀ p, chk y p = true) {v : Int32} {a b c np j : Nat} (hj : j < txn) (ht : tb y pc = (61, v, a, b, c, np)) (kk : WL L y d B n np ls (aI (nI (slen j)) :: st) Y P E) : WL L y d B n pc ls (aX (3 + j) :: st) Y P E := fun z0 X0 u hu => v_alenT K hj ht (kk z0 X0 u hu)
theorem m_chk9 (K : ∀ p, chk y p = true) {v9 : Int32} {cc np : Nat} {i n9 : Int32} (ht : tb y pc = (80, v9, 9, 232, cc, np)) (hy : cid y = 15) (hs : st.length ≤ 4) (h0 : ¬ i < 0) (h9 : i < n9) (kk : WL L y d B n np ls st Y P E) (hd : Nat.ble 4 d = true := by rfl) : WL L y d B n pc ls (aI n9 :: aI i :: st) Y P E := fun z0 X0 u hu => v_chk9 K ht hy (rokl hd hu) hs h0 h9 (kk z0 X0 u hu)
theorem m_copyB (K : ∀ p, chk y p = true) {v9 : Int32} {q b9 c9 np ks is n0 kd id n1 : Nat} {sp dp n : Int32} (ht : tb y pc = (86, v9, q, b9, c9, np)) (hs : st.length ≤ 2) (hk0 : shp ks = (1, 1, n0)) (hk1 : shp kd = (1, 1, n1)) (hf9 : ∀ i, i < ix n → fits .byte (.int (gI Y.1 ks is (ix sp + i))) = true) (h68 : Nat.beq ks 68 = false) (h69 : Nat.beq kd 68 = false) (h1 : ¬ sp < 0) (h2 : ¬ dp < 0) (h3 : ¬ n < 0) (h4 : ix sp + ix n ≤ n0) (h5 : ix dp + ix n ≤ n1) {m : Nat} (kk : WL L y d B m np ls st (cI Y.1 ks is (ix sp) kd id (ix dp) (ix n), Y.2) P E) (hd : Nat.ble 4 d = true := by rfl) : WL L y d B m pc ls (aI n :: aI dp :: aR kd id :: aI sp :: aR ks is :: st) Y P E := fun z0 X0 u hu => by
  obtain ⟨hd1, hl0, h9⟩ := chk_sp K ht rfl
  have h9 : np = pc + 3 := h9.elim (fun q => by cases q) (fun q => q)
  subst h9
  have e0 : aln (zU Y.2 L u (6 * u)) ks = n0 := by unfold aln; rw [h68, hk0]; rfl
  have e1 : aln (zU Y.2 L u (6 * u)) kd = n1 := by unfold aln; rw [h69, hk1]; rfl
  exact o_copyB (of_decide_eq_true hl0) (rokl hd hu) hs hk0 hk1 hf9 h68 h69 h1 h2 h3 (by rw [e0]; exact h4) (by rw [e1]; exact h5) h69 hd1 (kk z0 X0 u hu)
theorem m_copyT (K : ∀ p, chk y p = true) {v9 : Int32} {q b9 c9 np j kd id n1 : Nat} {sp dp n : Int32} (ht : tb y pc = (86, v9, q, b9, c9, np)) (hs : st.length ≤ 2) (hj : j < txn) (hk1 : shp kd = (1, 1, n1)) (hf9 : ∀ i, i < slen j → fits .byte (.int (schr j i)) = true) (h69 : Nat.beq kd 68 = false) (h1 : ¬ sp < 0) (h2 : ¬ dp < 0) (h3 : ¬ n < 0) (h4 : ix sp + ix n ≤ slen j) (h5 : ix dp + ix n ≤ n1) {m : Nat} (kk : WL L y d B m np ls st (cT Y.1 j kd id (ix sp) (ix dp) (ix n), Y.2) P E) (hd : Nat.ble 4 d = true := by rfl) : WL L y d B m pc ls (aI n :: aI dp :: aR kd id :: aI sp :: aX (3 + j) :: st) Y P E := fun z0 X0 u hu => by
  obtain ⟨hd1, hl0, h9⟩ := chk_sp K ht rfl
  have h9 : np = pc + 3 := h9.elim (fun q => by cases q) (fun q => q)
  subst h9
  have e1 : aln (zU Y.2 L u (6 * u)) kd = n1 := by unfold aln; rw [h69, hk1]; rfl
  exact o_copyT (of_decide_eq_true hl0) (rokl hd hu) hs hj hk1 hf9 h69 h1 h2 h3 h4 (by rw [e1]; exact h5) h69 hd1 (kk z0 X0 u hu)
theorem m_castB (K : ∀ p, chk y p = true) {v9 : Int32} {b cc np k i n9 : Nat} (ht : tb y pc = (89, v9, 311, b, cc, np)) (hy : cid y = 18) (hk : shp k = (1, 1, n9)) (hk8 : Nat.beq k 68 = false) (kk : WL L y d B n np ls (aR k i :: st) Y P E) : WL L y d B n pc ls (aR k i :: st) Y P E := fun z0 X0 u hu => v_castB K ht hy hk hk8 (kk z0 X0 u hu)
/-- the new row of kind k is what row i is -/
def mkR (Y : Sm) (k i : Nat) : Sm := (cR Y.1 k i (cF Y.2 k), ug Y.2 (2000 + k) (Y.2 (2000 + k) + 1))
theorem m_clone (K : ∀ p, chk y p = true) {v9 : Int32} {b cc np N i c : Nat} (ht : tb y pc = (98, v9, 310, b, cc, np)) (hy : cid y = 18) (hf9 : ∀ j, j < N → fits .byte (.int (gI Y.1 (1000 + N) i j)) = true) (hs : st.length ≤ 4) (hN : N ≤ 6 * c ∧ 1 ≤ c ∧ N ≤ 6000) (kk : WL L y d B n np ls (aR (1000 + N) (cF Y.2 (1000 + N)) :: st) (mkR Y (1000 + N) i) P E) (hd : Nat.ble 4 d = true := by rfl) : WL L y d B (n + c) pc ls (aR (1000 + N) i :: st) Y P E := fun z0 X0 u hu => by
  have hk9 : 48 ≤ 1000 + N ∧ 1000 + N ≤ 7000 ∧ 1000 + N ≠ 66 ∧ 1000 + N ≠ 68 := by omega
  refine v_clone K ht hy (shp_b N) (k68b N) hf9 (cF_ne) (k68b N) hs hd (rok_n (n := n) hu ⟨hN.2.1, hN.1⟩) ?_
  exact m_made (Y := (cR Y.1 (1000 + N) i (cF Y.2 (1000 + N)), Y.2)) (1000 + N) N c hk9 (fun j => sr_b _ _ _ _) ⟨hN.2.1, hN.1⟩ hu kk
theorem m_same (K : ∀ p, chk y p = true) {v9 v : Int32} {a b c np k i n9 : Nat} (ht : tb y pc = (51, v9, a, b, c, np)) (h1 : shp k = (0, c, n9)) (h2 : Nat.ble (b + 1) n9 = true) (hfin : ((vck c).2.1 b).2.2.2 = false) (hft : ft c b = 4) (hw : Nat.beq k 68 = false) (hX : gI Y.1 k i b = v) (hn : narrow (vty c b) (.int v) = .int v) (hfit : fits (vty c b) (.int v) = true) (kk : WL L y d B n np ls st Y P E) : WL L y d B n pc ls (aI v :: aR k i :: st) Y P E := fun z0 X0 u hu => v_same K ht h1 h2 hfin hft hw hX hn hfit (kk z0 X0 u hu)
theorem m_sameF (K : ∀ p, chk y p = true) {v9 v : Int32} {a b c np k i n9 : Nat} (ht : tb y pc = (51, v9, a, b, c, np)) (h1 : shp k = (0, c, n9)) (h2 : Nat.ble (b + 1) n9 = true) (hfin : ((vck c).2.1 b).2.2.2 = true) (hini : isIni y = true) (hdecl : ((vck c).2.1 b).1 = RN (cid y)) (hft : ft c b = 4) (hw : Nat.beq k 68 = false) (hX : gI Y.1 k i b = v) (hn : narrow (vty c b) (.int v) = .int v) (hfit : fits (vty c b) (.int v) = true) (kk : WL L y d B n np ls st Y P E) : WL L y d B n pc ls (aI v :: aR k i :: st) Y P E := fun z0 X0 u hu => v_sameF K ht h1 h2 hfin hini hdecl hft hw hX hn hfit (kk z0 X0 u hu)
theorem m_xV {b' : Nat} (K : ∀ p, chk y p = true) {v9 : Int32} {a c np y' d' k9 i9 c9 n9 : Nat} {As stk : List Av} {Q : Option Av → Sm → Prop} {E' : Nat → Sm → Prop} (hC : ML L d' b' y' (aR k9 i9 :: As) Y Q E') (hE : ∀ x Z, ¬ E' x Z) (ht : tb y pc = (81, v9, a, y', c, np)) (hs : stk = rapp (aR k9 i9 :: As) st) (kk : ∀ w Z, Q w Z → WL L y d B n np ls (w.toList ++ st) Z P E) (hsh : shp k9 = (0, c9, n9) := by rfl) (hcl : (vck c9).1 = RN (cid y') := by rfl) (hc9 : Nat.ble (c9 + 1) vcl.length = true := by rfl) (hlen : As.length = npl.getD y' 0 := by rfl) (hd : Nat.ble (d' + 1) d = true := by rfl) (hst : Nat.ble st.length 4 = true := by rfl) : WL L y d B (n + b') pc ls stk Y P E := by
  intro z0 X0 u hu
  refine v_callV K ht hC hsh hcl hc9 hs ⟨rfl, rfl, rfl⟩ (fun _ _ h => h) hlen hd ?_ hst (fun w z2 X2 h _ => ?_) (fun x z2 X2 h _ => ?_)
  · show (Nat.ble (u + b') B && Nat.ble (6 * u + 6 * b') (6 * B)) = true
    rw [Nat.ble_eq_true_of_le (by omega : u + b' ≤ B), Nat.ble_eq_true_of_le (by omega : 6 * u + 6 * b' ≤ 6 * B)]
    rfl
  · obtain ⟨g, h1, h2, h3⟩ := h
    rw [h1, h2]
    have k9 := kk w (X2, g) h3 z0 X0 (u + b') (by omega)
    rw [Nat.mul_add] at k9
    exact k9
  · obtain ⟨g, h1, h2, h3⟩ := h
    exact (hE _ _ h3).elim
theorem m_xS {b' : Nat} (K : ∀ p, chk y p = true) {v9 : Int32} {a c np y' d' : Nat} {As stk : List Av} {Q : Option Av → Sm → Prop} {E' : Nat → Sm → Prop} (hC : ML L d' b' y' (As) Y Q E') (hE : ∀ x Z, ¬ E' x Z) (ht : tb y pc = (80, v9, a, y', c, np)) (hs : stk = rapp (As) st) (kk : ∀ w Z, Q w Z → WL L y d B n np ls (w.toList ++ st) Z P E) (hy' : Nat.ble y' 299 = true := by rfl) (hlen : As.length = npl.getD y' 0 := by rfl) (hd : Nat.ble (d' + 1) d = true := by rfl) (hst : Nat.ble st.length 4 = true := by rfl) : WL L y d B (n + b') pc ls stk Y P E := by
  intro z0 X0 u hu
  refine v_callS K ht hC hy' hs ⟨rfl, rfl, rfl⟩ (fun _ _ h => h) hlen hd ?_ hst (fun w z2 X2 h _ => ?_) (fun x z2 X2 h _ => ?_)
  · show (Nat.ble (u + b') B && Nat.ble (6 * u + 6 * b') (6 * B)) = true
    rw [Nat.ble_eq_true_of_le (by omega : u + b' ≤ B), Nat.ble_eq_true_of_le (by omega : 6 * u + 6 * b' ≤ 6 * B)]
    rfl
  · obtain ⟨g, h1, h2, h3⟩ := h
    rw [h1, h2]
    have k9 := kk w (X2, g) h3 z0 X0 (u + b') (by omega)
    rw [Nat.mul_add] at k9
    exact k9
  · obtain ⟨g, h1, h2, h3⟩ := h
    exact (hE _ _ h3).elim
theorem m_xU {b' : Nat} (K : ∀ p, chk y p = true) {v9 : Int32} {a c np y' d' x i9 : Nat} {As stk : List Av} {Q : Option Av → Sm → Prop} {E' : Nat → Sm → Prop} (hC : ML L d' b' y' (aR 49 i9 :: As) Y Q E') (hE : ∀ x Z, ¬ E' x Z) (hU : jU (cid y) a x y') (hde : (nmy x).desc = (nmy y').desc) (ht : tb y pc = (96, v9, a, y', c, np)) (hs : stk = rapp (aR 49 i9 :: As) st) (kk : ∀ w Z, Q w Z → WL L y d B n np ls (w.toList ++ st) Z P E) (hy0 : Nat.ble y' 299 = true := by rfl) (hlen : As.length = npl.getD y' 0 := by rfl) (hd : Nat.ble (d' + 1) d = true := by rfl) (hst : Nat.ble st.length 4 = true := by rfl) : WL L y d B (n + b') pc ls stk Y P E := by
  intro z0 X0 u hu
  refine v_callU K ht hU hde hy0 hC rfl rfl (by rfl) hs ⟨rfl, rfl, rfl⟩ (fun _ _ h => h) hlen hd ?_ hst (fun w z2 X2 h _ => ?_) (fun x z2 X2 h _ => ?_)
  · show (Nat.ble (u + b') B && Nat.ble (6 * u + 6 * b') (6 * B)) = true
    rw [Nat.ble_eq_true_of_le (by omega : u + b' ≤ B), Nat.ble_eq_true_of_le (by omega : 6 * u + 6 * b' ≤ 6 * B)]
    rfl
  · obtain ⟨g, h1, h2, h3⟩ := h
    rw [h1, h2]
    have k9 := kk w (X2, g) h3 z0 X0 (u + b') (by omega)
    rw [Nat.mul_add] at k9
    exact k9
  · obtain ⟨g, h1, h2, h3⟩ := h
    exact (hE _ _ h3).elim
theorem m_xP {b' : Nat} (K : ∀ p, chk y p = true) {v9 : Int32} {a c np y' d' i9 : Nat} {As stk : List Av} {Q : Option Av → Sm → Prop} {E' : Nat → Sm → Prop} (hC : ML L d' b' y' (aR 49 i9 :: As) Y Q E') (hE : ∀ x Z, ¬ E' x Z) (hU : ∀ w ∈ va_wsSU (RN (cid y)) a (nmy y') [], w ∈ TT) (hde : (nmy y').name ≠ "<init>") (ht : tb y pc = (97, v9, a, y', c, np)) (hs : stk = rapp (aR 49 i9 :: As) st) (kk : ∀ w Z, Q w Z → WL L y d B n np ls (w.toList ++ st) Z P E) (hy0 : Nat.ble y' 299 = true := by rfl) (hlen : As.length = npl.getD y' 0 := by rfl) (hd : Nat.ble (d' + 1) d = true := by rfl) (hst : Nat.ble st.length 4 = true := by rfl) : WL L y d B (n + b') pc ls stk Y P E := by
  intro z0 X0 u hu
  refine v_callSU K ht hU hde hy0 hC rfl rfl (by rfl) hs ⟨rfl, rfl, rfl⟩ (fun _ _ h => h) hlen hd ?_ hst (fun w z2 X2 h _ => ?_) (fun x z2 X2 h _ => ?_)
  · show (Nat.ble (u + b') B && Nat.ble (6 * u + 6 * b') (6 * B)) = true
    rw [Nat.ble_eq_true_of_le (by omega : u + b' ≤ B), Nat.ble_eq_true_of_le (by omega : 6 * u + 6 * b' ≤ 6 * B)]
    rfl
  · obtain ⟨g, h1, h2, h3⟩ := h
    rw [h1, h2]
    have k9 := kk w (X2, g) h3 z0 X0 (u + b') (by omega)
    rw [Nat.mul_add] at k9
    exact k9
  · obtain ⟨g, h1, h2, h3⟩ := h
    exact (hE _ _ h3).elim
theorem m_xI {b' : Nat} (K : ∀ p, chk y p = true) {v9 : Int32} {a c np y' d' k9 i9 : Nat} {As stk : List Av} {Q : Option Av → Sm → Prop} {E' : Nat → Sm → Prop} (hC : ML L d' b' y' (aR k9 i9 :: As) Y Q E') (hE : ∀ x Z, ¬ E' x Z) (ht : tb y pc = (82, v9, a, y', 0, np)) (hs : stk = rapp (aR k9 i9 :: As) st) (kk : ∀ w Z, Q w Z → WL L y d B n np ls (w.toList ++ st) Z P E)  (hlen : As.length = npl.getD y' 0 := by rfl) (hd : Nat.ble (d' + 1) d = true := by rfl) (hst : Nat.ble st.length 4 = true := by rfl) : WL L y d B (n + b') pc ls stk Y P E := by
  intro z0 X0 u hu
  refine v_callI K ht hC hs ⟨rfl, rfl, rfl⟩ (fun _ _ h => h) hlen hd ?_ hst (fun w z2 X2 h _ => ?_) (fun x z2 X2 h _ => ?_)
  · show (Nat.ble (u + b') B && Nat.ble (6 * u + 6 * b') (6 * B)) = true
    rw [Nat.ble_eq_true_of_le (by omega : u + b' ≤ B), Nat.ble_eq_true_of_le (by omega : 6 * u + 6 * b' ≤ 6 * B)]
    rfl
  · obtain ⟨g, h1, h2, h3⟩ := h
    rw [h1, h2]
    have k9 := kk w (X2, g) h3 z0 X0 (u + b') (by omega)
    rw [Nat.mul_add] at k9
    exact k9
  · obtain ⟨g, h1, h2, h3⟩ := h
    exact (hE _ _ h3).elim
theorem m_xT {b' : Nat} (K : ∀ p, chk y p = true) {v9 : Int32} {a c np y' d' op j9 : Nat} {As stk : List Av} {Q : Option Av → Sm → Prop} {E' : Nat → Sm → Prop} (hC : ML L d' b' y' (aS j9 :: As) Y Q E') (hE : ∀ x Z, ¬ E' x Z) (ht : tb y pc = (op, v9, a, y', c, np)) (hop : op = 81 ∨ op = 99) (hlk : Cond.methodLink (RN (cid y)) a (nmy y') ∈ TT) (hs : stk = rapp (aS j9 :: As) st) (kk : ∀ w Z, Q w Z → WL L y d B n np ls (w.toList ++ st) Z P E) (hI : y' ∈ IMd := by decide) (hSl : y' ∈ SLd := by decide) (hcl : cid y' = 14 := by rfl) (hy0 : Nat.ble y' 299 = true := by rfl) (hlen : As.length = npl.getD y' 0 := by rfl) (hd : Nat.ble (d' + 1) d = true := by rfl) (hst : Nat.ble st.length 4 = true := by rfl) : WL L y d B (n + b') pc ls stk Y P E := by
  intro z0 X0 u hu
  refine v_callT K ht hop hlk hI hSl hcl hy0 hC hs ⟨rfl, rfl, rfl⟩ (fun _ _ h => h) hlen hd ?_ hst (fun w z2 X2 h _ => ?_) (fun x z2 X2 h _ => ?_)
  · show (Nat.ble (u + b') B && Nat.ble (6 * u + 6 * b') (6 * B)) = true
    rw [Nat.ble_eq_true_of_le (by omega : u + b' ≤ B), Nat.ble_eq_true_of_le (by omega : 6 * u + 6 * b' ≤ 6 * B)]
    rfl
  · obtain ⟨g, h1, h2, h3⟩ := h
    rw [h1, h2]
    have k9 := kk w (X2, g) h3 z0 X0 (u + b') (by omega)
    rw [Nat.mul_add] at k9
    exact k9
  · obtain ⟨g, h1, h2, h3⟩ := h
    exact (hE _ _ h3).elim
end LG
