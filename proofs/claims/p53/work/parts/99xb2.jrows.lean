/-! rows for the JDK's members (printed by wip/p53/new/xb.py) -/
theorem va_Sw {A B : Nat → Prop} {H0 H : Heap} {locs : List Loc} (h : va_S A H0 H locs) (hAB : ∀ q, A q → B q) : va_S B H0 H locs := ⟨h.1, fun q a b => h.2.1 q a (fun z => b (hAB q z)), fun q hq => hAB _ (h.2.2 q hq)⟩
section JR
variable {y : Nat} {xt : List ExceptionTableEntry} {d mc ms : Nat} {wp : Nat → Nat → Prop} {z0 : Zz} {X0 : Mm} {QR : Option Av → Zz → Mm → Prop} {QX : Nat → Zz → Mm → Prop} {z : Zz} {pc : Nat} {ls : Lo} {st : List Av} {X : Mm}
theorem v_areturn (K : ∀ p, chk y p = true) {v : Int32} {a b c np : Nat} {x : Av} {t : FieldType} (ht : tb y pc = (76, v, a, b, c, np)) (hrt : rtt y = some t) (h9 : (∃ n, t = .object n) ∨ ∃ t', t = .array t') (hx : isRf x = true) (hq : QR (some x) z X) (hr : rok d mc ms z = true := by rfl) : V y xt d mc ms wp z0 X0 QR QX z pc ls [x] X := by
  intro l G ad0 p e s m args below meth c0 C ad H locs cells slots la U hl ol os
  obtain ⟨h1, -, -⟩ := chk_sp K ht rfl
  obtain ⟨r1, r2, r3⟩ := rok_of hr
  have hok : okv z x := oks_h os
  refine vx_ret (W.widen (k := mc) (n := ms) (Nat.le_trans U.2.2.2.2.2.2.1 r2) (Nat.le_trans U.2.2.2.2.2.2.2.1 r3) ?_)
  exact W.aret C.1 C.2.1 (C.2.2.2.2.2.2.1.trans hrt) h9 (Or.inr (rf_cv G ad hx)) (fun t hT _ => ⟨⟨some x, ad, z, X, rfl, hq, by rw [hT]; exact U.ed, fun w hw => by cases hw; exact hok⟩, U.2.2.2.2.2.1.F hT⟩) U.locsA h1 C.2.2.2.2.2.1
theorem v_getC (K : ∀ p, chk y p = true) {v : Int32} {a b c np : Nat} (ht : tb y pc = (75, v, a, b, c, np)) (hlk : Cond.fieldLink (RN (cid y)) a "java/lang/String" "COMPACT_STRINGS" "Z" ∈ TT) (kk : V y xt d mc ms wp z0 X0 QR QX z np ls (aI (nI 1) :: st) X) : V y xt d mc ms wp z0 X0 QR QX z pc ls st X := by
  intro l G ad0 p e s m args below meth c0 C ad H locs cells slots la U hl ol os
  obtain ⟨h1, h2, h3⟩ := chk_sp K ht rfl
  have h3 : np = pc + 3 := h3.elim (fun q => by cases q) id
  subst h3
  have hKh := C.2.2.2.2.2.2.2.2.2.2.2
  exact va_gets (ref := "java/lang/String") C.1 C.2.1 hKh.2.2.2.1 (va_Sw U.2.2.2.2.2.1 U.2.2.2.2.2.2.2.2.2) C.2.2.2.1 (C.2.2.2.2.1 _ hlk) (fun _ h => h) h1 (kk l G ad0 p e s m args below meth c0 C ad H locs cells slots la U hl ol (oks_c trivial os))
theorem v_getD1 (K : ∀ p, chk y p = true) {v : Int32} {a b c np : Nat} (ht : tb y pc = (75, v, a, b, c, np)) (hlk : Cond.fieldLink (RN (cid y)) a "java/lang/Integer" "DigitOnes" "[B" ∈ TT) (kk : V y xt d mc ms wp z0 X0 QR QX z np ls (aX 1 :: st) X) : V y xt d mc ms wp z0 X0 QR QX z pc ls st X := by
  intro l G ad0 p e s m args below meth c0 C ad H locs cells slots la U hl ol os
  obtain ⟨h1, h2, h3⟩ := chk_sp K ht rfl
  have h3 : np = pc + 3 := h3.elim (fun q => by cases q) id
  subst h3
  have hKh := C.2.2.2.2.2.2.2.2.2.2.2
  exact va_gets (ref := "java/lang/Integer") C.1 C.2.1 hKh.2.2.2.2.2.1.1 (va_Sw U.2.2.2.2.2.1 U.2.2.2.2.2.2.2.2.2) C.2.2.2.1 (C.2.2.2.2.1 _ hlk) (fun _ h => h) h1 (kk l G ad0 p e s m args below meth c0 C ad H locs cells slots la U hl ol (oks_c trivial os))
theorem v_getD2 (K : ∀ p, chk y p = true) {v : Int32} {a b c np : Nat} (ht : tb y pc = (75, v, a, b, c, np)) (hlk : Cond.fieldLink (RN (cid y)) a "java/lang/Integer" "DigitTens" "[B" ∈ TT) (kk : V y xt d mc ms wp z0 X0 QR QX z np ls (aX 2 :: st) X) : V y xt d mc ms wp z0 X0 QR QX z pc ls st X := by
  intro l G ad0 p e s m args below meth c0 C ad H locs cells slots la U hl ol os
  obtain ⟨h1, h2, h3⟩ := chk_sp K ht rfl
  have h3 : np = pc + 3 := h3.elim (fun q => by cases q) id
  subst h3
  have hKh := C.2.2.2.2.2.2.2.2.2.2.2
  exact va_gets (ref := "java/lang/Integer") C.1 C.2.1 hKh.2.2.2.2.2.2.1.1 (va_Sw U.2.2.2.2.2.1 U.2.2.2.2.2.2.2.2.2) C.2.2.2.1 (C.2.2.2.2.1 _ hlk) (fun _ h => h) h1 (kk l G ad0 p e s m args below meth c0 C ad H locs cells slots la U hl ol (oks_c trivial os))
theorem v_bald1 (K : ∀ p, chk y p = true) {v j : Int32} {a b c np : Nat} (ht : tb y pc = (54, v, a, b, c, np)) (hj : vp_in j 100) (kk : V y xt d mc ms wp z0 X0 QR QX z np ls (aI (dgt 1 (ix j)) :: st) X) : V y xt d mc ms wp z0 X0 QR QX z pc ls (aI j :: aX 1 :: st) X := by
  intro l G ad0 p e s m args below meth c0 C ad H locs cells slots la U hl ol os
  obtain ⟨h1, h2, h3⟩ := chk_sp K ht rfl
  have h3 : np = pc + 1 := h3.elim (fun q => by cases q) id
  subst h3
  have hKh := C.2.2.2.2.2.2.2.2.2.2.2
  exact va_tb C.1 C.2.1 hKh.2.2.2.2.2.1.2 (va_Sw U.2.2.2.2.2.1 U.2.2.2.2.2.2.2.2.2) hj rfl h1 (kk l G ad0 p e s m args below meth c0 C ad H locs cells slots la U hl ol (oks_c trivial (oks_t (oks_t os))))
theorem v_bald2 (K : ∀ p, chk y p = true) {v j : Int32} {a b c np : Nat} (ht : tb y pc = (54, v, a, b, c, np)) (hj : vp_in j 100) (kk : V y xt d mc ms wp z0 X0 QR QX z np ls (aI (dgt 2 (ix j)) :: st) X) : V y xt d mc ms wp z0 X0 QR QX z pc ls (aI j :: aX 2 :: st) X := by
  intro l G ad0 p e s m args below meth c0 C ad H locs cells slots la U hl ol os
  obtain ⟨h1, h2, h3⟩ := chk_sp K ht rfl
  have h3 : np = pc + 1 := h3.elim (fun q => by cases q) id
  subst h3
  have hKh := C.2.2.2.2.2.2.2.2.2.2.2
  exact va_tb C.1 C.2.1 hKh.2.2.2.2.2.2.1.2 (va_Sw U.2.2.2.2.2.1 U.2.2.2.2.2.2.2.2.2) hj rfl h1 (kk l G ad0 p e s m args below meth c0 C ad H locs cells slots la U hl ol (oks_c trivial (oks_t (oks_t os))))
theorem v_ifnn (K : ∀ p, chk y p = true) {v : Int32} {tg b c np : Nat} {x : Av} (ht : tb y pc = (78, v, tg, b, c, np)) (hx : isRf x = true) (kk : V y xt d mc ms wp z0 X0 QR QX z tg ls st X) : V y xt d mc ms wp z0 X0 QR QX z pc ls (x :: st) X := by
  intro l G ad0 p e s m args below meth c0 C ad H locs cells slots la U hl ol os
  obtain ⟨h1, h2, h3⟩ := chk_sp K ht rfl
  obtain ⟨q, hq⟩ := rf_cv G ad hx
  show W p l e (rmm d mc ms) s m args below meth c0 H locs cells slots _ (F0 m pc la (cv G ad x :: st.map (cv G ad)))
  rw [hq]
  exact lv_ifnonnull C.1 C.2.1 h1 (by omega) (kk l G ad0 p e s m args below meth c0 C ad H locs cells slots la U hl ol (oks_t os))
theorem v_null (K : ∀ p, chk y p = true) {v : Int32} {a b c np : Nat} (ht : tb y pc = (79, v, a, b, c, np)) (kk : V y xt d mc ms wp z0 X0 QR QX z np ls (aX 0 :: st) X) : V y xt d mc ms wp z0 X0 QR QX z pc ls st X := by
  intro l G ad0 p e s m args below meth c0 C ad H locs cells slots la U hl ol os
  obtain ⟨h1, h2, h3⟩ := chk_sp K ht rfl
  have h3 : np = pc + 1 := h3.elim (fun q => by cases q) id
  subst h3
  exact lv_null C.1 C.2.1 h1 (kk l G ad0 p e s m args below meth c0 C ad H locs cells slots la U hl ol (oks_c trivial os))
theorem v_getR (K : ∀ p, chk y p = true) {v : Int32} {a b c np k i n k2 i2 : Nat} (ht : tb y pc = (50, v, a, b, c, np)) (h1 : shp k = (0, c, n)) (h2 : Nat.ble (b + 1) n = true) (hf : ft c b = 3) (hr : z.2.1 k i b = some (k2, i2)) (kk : V y xt d mc ms wp z0 X0 QR QX z np ls (aR k2 i2 :: st) X) : V y xt d mc ms wp z0 X0 QR QX z pc ls (aR k i :: st) X := by
  obtain ⟨hd, hl0, h3⟩ := chk_sp K ht rfl
  have h3 : np = pc + 3 := h3.elim (fun q => by cases q) id
  subst h3
  have hb := Nat.le_of_ble_eq_true h2
  exact o_get (v := aR k2 i2) (of_decide_eq_true hl0) h1 hb (fun G ad => by simp only [fv, hf, hr]; rfl) (fun G ad H hp hi => hp.2.2.2.2 _ _ _ _ hi (by rw [aln_o h1]; exact hb) hr) hd kk
theorem v_alenB (K : ∀ p, chk y p = true) {v : Int32} {a b c np k i n : Nat} (ht : tb y pc = (61, v, a, b, c, np)) (hk : shp k = (1, 1, n)) (hk8 : Nat.beq k 68 = false) (kk : V y xt d mc ms wp z0 X0 QR QX z np ls (aI (nI n) :: st) X) : V y xt d mc ms wp z0 X0 QR QX z pc ls (aR k i :: st) X := by
  obtain ⟨hd, -, h3⟩ := chk_sp K ht rfl
  have h3 : np = pc + 1 := h3.elim (fun q => by cases q) id
  subst h3
  have e : aln z k = n := by unfold aln; rw [hk8, hk]; rfl
  exact o_arraylength hk (by decide) hd (by rw [e]; exact kk)
theorem v_baldB (K : ∀ p, chk y p = true) {v j : Int32} {a b c np k i n : Nat} (ht : tb y pc = (54, v, a, b, c, np)) (hk : shp k = (1, 1, n)) (hk8 : Nat.beq k 68 = false) (hj : vp_in j n) (kk : V y xt d mc ms wp z0 X0 QR QX z np ls (aI (gI X k i (ix j)) :: st) X) : V y xt d mc ms wp z0 X0 QR QX z pc ls (aI j :: aR k i :: st) X := by
  obtain ⟨hd, -, h3⟩ := chk_sp K ht rfl
  have h3 : np = pc + 1 := h3.elim (fun q => by cases q) id
  subst h3
  have e : aln z k = n := by unfold aln; rw [hk8, hk]; rfl
  exact o_baload hk (by rw [e]; exact hj) hd kk
theorem v_bastB (K : ∀ p, chk y p = true) {v j x : Int32} {a b c np k i n : Nat} (ht : tb y pc = (55, v, a, b, c, np)) (hk : shp k = (1, 1, n)) (hk8 : Nat.beq k 68 = false) (hj : vp_in j n) (hw : wp k i) (kk : V y xt d mc ms wp z0 X0 QR QX z np ls st (uI X k i (ix j) x.toInt8.toInt32)) : V y xt d mc ms wp z0 X0 QR QX z pc ls (aI x :: aI j :: aR k i :: st) X := by
  obtain ⟨hd, -, h3⟩ := chk_sp K ht rfl
  have h3 : np = pc + 1 := h3.elim (fun q => by cases q) id
  subst h3
  have e : aln z k = n := by unfold aln; rw [hk8, hk]; rfl
  exact o_bastore hk (by rw [e]; exact hj) hw hd kk
end JR
