/-! the law's own methods: a call of the class, and what it throws is caught (printed by wip/whole/gen21.py) -/
def hcp (x : Nat) : Nat := [13, 28, 82, 30].getD x 0
theorem hcp_0 : Cond.classLink RL 13 (exn 0) ∈ TT := TT_in (tp4 (List.mem_of_getElem? (i := 158) rfl)) rfl
theorem hcp_1 : Cond.classLink RL 28 (exn 1) ∈ TT := TT_in (tp5 (List.mem_of_getElem? (i := 36) rfl)) rfl
theorem hcp_2 : Cond.classLink RL 82 (exn 2) ∈ TT := TT_in (tp5 (List.mem_of_getElem? (i := 236) rfl)) rfl
theorem hcp_3 : Cond.classLink RL 30 (exn 3) ∈ TT := TT_in (tp5 (List.mem_of_getElem? (i := 37) rfl)) rfl
theorem hcp_in (x : Nat) (h : x < 4) : Cond.classLink RL (hcp x) (exn x) ∈ TT := by
  match x, h with
  | 0, _ => exact hcp_0
  | 1, _ => exact hcp_1
  | 2, _ => exact hcp_2
  | 3, _ => exact hcp_3
theorem hcp_ne (x : Nat) (h : x < 4) : hcp x ≠ 0 := by
  match x, h with
  | 0, _ => decide
  | 1, _ => decide
  | 2, _ => decide
  | 3, _ => decide
def hpr (x : Nat) (pre : List ExceptionTableEntry) : Prop := ∀ z ∈ pre, ∃ x', x' < 4 ∧ x ≠ x' ∧ z.catchType = hcp x'
theorem hpr_n {x : Nat} : hpr x [] := fun _ h => nomatch h
theorem hpr_c {x x' : Nat} {e : ExceptionTableEntry} {t : List ExceptionTableEntry} (h1 : x' < 4) (h2 : x ≠ x') (h3 : e.catchType = hcp x') (h4 : hpr x t) : hpr x (e :: t) := fun z hz => by
  rcases List.mem_cons.mp hz with h | h
  · rw [h]; exact ⟨x', h1, h2, h3⟩
  · exact h4 z h
section WV
variable {y : Nat} {xt : List ExceptionTableEntry} {d mc ms : Nat} {wp : Nat → Nat → Prop} {z0 : Zz} {X0 : Mm} {QR : Option Av → Zz → Mm → Prop} {QX : Nat → Zz → Mm → Prop} {z : Zz} {pc : Nat} {ls : Lo} {st : List Av} {X : Mm}
theorem v_caught (x : Nat) (hx : x < 4) (pre : List ExceptionTableEntry) (xe : ExceptionTableEntry) (suf : List ExceptionTableEntry) (hsplit : xt = pre ++ xe :: suf) (hpre : hpr x pre) (hcov : covers xe pc = true) (hct : xe.catchType = hcp x) (hcid : cid y = 13)
    (kk : ∀ a : Nat, V y xt d mc ms wp z0 X0 QR QX z xe.handlerPc ls [aX a] X) : VX y xt d mc ms wp z0 X0 QR QX z pc ls x X := by
  intro l G ad0 p e s m args below meth c0 C ad H locs cells slots la rest q ce U hl ol hce hcv hcl
  have hts := C.2.2.2.2.1
  have hKt := C.2.2.2.2.2.2.2.2.2.2.1
  have hown : s.vm.findClass RL = some m.cls := by have := C.2.2.2.1; rwa [hcid] at this
  refine vx_catch (own := RL) (name := exn x) (E := exn x) hown pre xe suf (by rw [C.2.2.2.2.2.2.2.2.1]; exact hsplit) (fun w hw => ?_) hcov (by rw [hct]; exact hcp_ne x hx) (by rw [hct]; exact hts _ (hcp_in x hx)) (va_Nw.use rfl (hKt.2.2.2.1 x hx)) hce hcv hcl ?_
  · obtain ⟨x', h1, h2, h3⟩ := hpre w hw
    exact Or.inr ⟨by rw [h3]; exact hcp_ne x' h1, exn x', by rw [h3]; exact hts _ (hcp_in x' h1), hKt.2.2.2.2.2.1 x x' hx h1 h2⟩
  · exact kk q l G ad0 p e s m args below meth c0 C ad H locs cells slots la U hl ol (fun v hv => by rw [List.mem_singleton.mp hv]; trivial)
end WV
def wsx (y : Nat) : List Cond := hdx y :: TT
def Cw (y d mc ms : Nat) (wp : Nat → Nat → Prop) (z : Zz) (X : Mm) (As : List Av) (QR : Option Av → Zz → Mm → Prop) (QX : Nat → Zz → Mm → Prop) : Prop :=
  (∀ i, ¬ wp 68 i) ∧ ∀ (l : Launch) (G : Gp) (ad : Nat → Nat → Nat) (sz : Nat), l.stackTraces = false →
    vx_Met l (nmy y) (wsx y) (rmm d mc ms) (Pcc G ad z X sz As) (Qcc G ad wp z X sz QR) (XCC G ad wp z X sz QX) mc ms (Afr ad z wp sz)
theorem cw_in0 : ∀ y, y < 334 → 300 ≤ y → y ∈ CWd := by decide +kernel
theorem cw_in (y : Nat) (h : 300 ≤ y) (h2 : y < 334) : y ∈ CWd := cw_in0 y h2 h
theorem Cw_of {y d mc ms : Nat} {wp : Nat → Nat → Prop} {z : Zz} {X : Mm} {QR : Option Av → Zz → Mm → Prop} {QX : Nat → Zz → Mm → Prop} {As : List Av} {ls : Lo} (hy3 : 300 ≤ y) (hy4 : y < 334) (hwp : ∀ i, ¬ wp 68 i) (hls : lar 0 As = ls) (hwid : Nat.ble (wid As) (mxl y) = true) (h : V y (tableOf (hhy y)) d mc ms wp z X QR QX (z.1, z.2.1, z.2.2.1, 0, 0) 0 ls [] X) : Cw y d mc ms wp z X As QR QX := by
  have hyN : y < NM := Nat.lt_of_lt_of_le hy4 (by decide)
  refine ⟨hwp, fun l G ad sz hst => vx_ofWH (cc := byt y) (maxL := mxl y) (ret := rtt y) (hh := hhy y) (cls_ok y hyN).2.1 rfl (fun p e s m args below meth c s₁ B hml hv => ?_)⟩
  obtain ⟨hargs, hKt, hKh, hHp, hDf, hok, hsz⟩ := hv
  subst hsz
  have hts := atoms_spec (ws := wsx y) B.pre
  have htab := vx_table (x := nmy y) B (hts _ List.mem_cons_self)
  have hl := lv_entry (As.map (cv G ad)) (n := mxl y) (by rw [wid_len]; exact Nat.le_of_ble_eq_true hwid)
  rw [lar_eq, hls] at hl
  have hown := findClass_of_methodNamed B.named
  rw [(cls_ok y hyN).1] at hown
  have hini : isIni y = false := by
    have : ∀ y, y < 334 → 300 ≤ y → isIni y = false := by decide +kernel
    exact this y hy4 hy3
  have hA : ∀ q, Afr ad z wp s.heap.size q → A0 G q := fun q hq => by
    rcases hq with ⟨k, i, h1, h2, rfl⟩ | h1
    · exact hHp.2.2.1 k i h2 (fun e => hwp i (by rw [e] at h1; exact h1))
    · exact Nat.le_trans hHp.2.2.2.1 h1
  rw [hargs, lg_entry_eq]
  rw [hargs] at B hts
  exact h l G ad p e s m _ below meth c ⟨B.exec, B.bytes, hml, hown, fun w hw => hts w (List.mem_cons_of_mem _ hw), B.notSynchronized, B.returns, hst, htab, (fun hi => absurd hi (by rw [hini]; decide)), hKt, hKh⟩ ad s.heap [] 0 0 _
    ⟨hHp.cg rfl rfl rfl, hDf.cg rfl rfl, fun k i hk => ⟨rfl, hk⟩, fun k i h1 h2 => absurd h2 (Nat.not_lt.mpr h1), Ag.rf, va_S.rf, Nat.zero_le _, Nat.zero_le _, rfl, hA⟩ hl (by rw [← hls]; exact okl_lar 0 (fun v hv => (hok v hv).cg rfl)) (fun v hv => by cases hv)
def Mw (d b y : Nat) (As : List Av) (Y : Sm) (P : Option Av → Sm → Prop) (E : Nat → Sm → Prop) : Prop := ∀ L, Cw y d b (6 * b) allw (zU Y.2 L 0 0) Y.1 As (qn P) (qn E)
/-- the walk of one of them -/
def Wx (d b y u pc : Nat) (ls : Lo) (st : List Av) (Y : Sm) (P : Option Av → Sm → Prop) (E : Nat → Sm → Prop) : Prop := ∀ L z0 X0, V y (tableOf (hhy y)) d b (6 * b) allw z0 X0 (qn P) (qn E) (zU Y.2 L u (6 * u)) pc ls st Y.1
def Wy (d b y u pc : Nat) (ls : Lo) (x : Nat) (Y : Sm) (P : Option Av → Sm → Prop) (E : Nat → Sm → Prop) : Prop := ∀ L z0 X0, VX y (tableOf (hhy y)) d b (6 * b) allw z0 X0 (qn P) (qn E) (zU Y.2 L u (6 * u)) pc ls x Y.1
theorem Mw_of {d b y : Nat} {As : List Av} {Y : Sm} {P : Option Av → Sm → Prop} {E : Nat → Sm → Prop} (ls : Lo) (h : Wx d b y 0 0 ls [] Y P E) (hy : (Nat.ble 300 y && Nat.ble y 333) = true := by rfl) (hls : lar 0 As = ls := by rfl) (hwid : Nat.ble (wid As) (mxl y) = true := by rfl) : Mw d b y As Y P E := by
  obtain ⟨h1, h2⟩ := Bool.and_eq_true_iff.mp hy
  exact fun L => Cw_of (Nat.le_of_ble_eq_true h1) (Nat.lt_succ_of_le (Nat.le_of_ble_eq_true h2)) (fun i h => nomatch h) hls hwid (h L (zU Y.2 L 0 0) Y.1)
section XM
variable {d b y u pc : Nat} {ls : Lo} {st : List Av} {Y : Sm} {P : Option Av → Sm → Prop} {E : Nat → Sm → Prop}
theorem x_sg (K : ∀ p, chk y p = true) (n : Nat) {pc' : Nat} {ls' : Lo} {st' : List Av} {cs' : List Prop} (h : ∀ L, seg allw (zU Y.2 L u (6 * u)) y n pc ls st Y.1 [] = some (pc', ls', st', Y.1, cs')) (hc : allP cs') (k : Wx d b y u pc' ls' st' Y P E) (hr : (Nat.ble 4 d && (Nat.ble u b && Nat.ble (6 * u) (6 * b))) = true := by rfl) : Wx d b y u pc ls st Y P E :=
  fun L z0 X0 => v_seg K n (h L) hc (k L z0 X0) hr
theorem x_sw (K : ∀ p, chk y p = true) (n : Nat) {Z : Sm} {pc' : Nat} {ls' : Lo} {st' : List Av} {cs' : List Prop} (h : ∀ L, seg allw (zU Y.2 L u (6 * u)) y n pc ls st Y.1 [] = some (pc', ls', st', Z.1, cs')) (hg : Y.2 = Z.2) (hc : allP cs') (k : Wx d b y u pc' ls' st' Z P E) (hr : (Nat.ble 4 d && (Nat.ble u b && Nat.ble (6 * u) (6 * b))) = true := by rfl) : Wx d b y u pc ls st Y P E :=
  fun L z0 X0 => v_seg K n (h L) hc (by rw [hg]; exact k L z0 X0) hr
theorem x_if_eq (K : ∀ p, chk y p = true) {v a : Int32} {tg c np : Nat} (ht : tb y pc = (65, v, tg, 0, c, np)) (kt : a = 0 → Wx d b y u tg ls st Y P E) (kf : ¬ a = 0 → Wx d b y u np ls st Y P E) : Wx d b y u pc ls (aI a :: st) Y P E := fun L z0 X0 => v_if_eq K ht (fun q => kt q L z0 X0) (fun q => kf q L z0 X0)
theorem x_ls (l2 : Lo) (h : ∀ q ∈ l2, lget q.1 ls = some q.2) (k : Wx d b y u pc l2 st Y P E) : Wx d b y u pc ls st Y P E := fun L z0 X0 => v_ls l2 h (k L z0 X0)
theorem x_ireturn (K : ∀ p, chk y p = true) {v : Int32} {a b9 c np : Nat} {x : Int32} (hq : P (some (aI x)) Y) (ht : tb y pc = (70, v, a, b9, c, np) := by rfl) (hrt : rtt y = some .int := by rfl) (hr : (Nat.ble 4 d && (Nat.ble u b && Nat.ble (6 * u) (6 * b))) = true := by rfl) : Wx d b y u pc ls [aI x] Y P E := fun L z0 X0 => v_ireturn K ht hrt ⟨Y.2, rfl, rfl, hq⟩ hr
theorem x_cV1 (K : ∀ p, chk y p = true) {v9 : Int32} {a c np y' d' b' k9 i9 c9 n9 : Nat} {As stk : List Av} {v : Av} {Y' : Sm} (hC : Mt d' b' y' (aR k9 i9 :: As) Y (Rt (some v) Y') nX) (ht : tb y pc = (81, v9, a, y', c, np)) (hs : stk = rapp (aR k9 i9 :: As) st) (kk : Wx d b y (u + b') np ls (v :: st) Y' P E)
    (hr : (Nat.ble 4 d && (Nat.ble (u + b') b && Nat.ble (6 * u + 6 * b') (6 * b))) = true := by rfl) (hsh : shp k9 = (0, c9, n9) := by rfl) (hcl : (vck c9).1 = RN (cid y') := by rfl) (hc9 : Nat.ble (c9 + 1) vcl.length = true := by rfl) (hlen : As.length = npl.getD y' 0 := by rfl) (hd : Nat.ble (d' + 1) d = true := by rfl) (hst : Nat.ble st.length 4 = true := by rfl) : Wx d b y u pc ls stk Y P E := by
  intro L z0 X0
  refine v_callV K ht (hC L) hsh hcl hc9 hs ⟨rfl, rfl, rfl⟩ (fun _ _ h => h) hlen hd (Bool.and_eq_true_iff.mp hr).2 hst (fun w z2 X2 h _ => ?_) (fun x z2 X2 h _ => ?_)
  · obtain ⟨g, h1, h2, rfl, rfl⟩ := h
    rw [h1, h2]
    have k9 := kk L z0 X0
    rw [Nat.mul_add] at k9
    exact k9
  · obtain ⟨g, h1, h2, h3⟩ := h
    exact h3.elim
/-- a call that throws -/
theorem x_cVx (K : ∀ p, chk y p = true) {v9 : Int32} {a c np y' d' b' k9 i9 c9 n9 : Nat} {As stk : List Av} {x : Nat} {Y' : Sm} (hC : Mt d' b' y' (aR k9 i9 :: As) Y nR (Xt x Y')) (ht : tb y pc = (81, v9, a, y', c, np)) (hs : stk = rapp (aR k9 i9 :: As) st) (kx : Wy d b y (u + b') pc ls x Y' P E)
    (hr : (Nat.ble 4 d && (Nat.ble (u + b') b && Nat.ble (6 * u + 6 * b') (6 * b))) = true := by rfl) (hsh : shp k9 = (0, c9, n9) := by rfl) (hcl : (vck c9).1 = RN (cid y') := by rfl) (hc9 : Nat.ble (c9 + 1) vcl.length = true := by rfl) (hlen : As.length = npl.getD y' 0 := by rfl) (hd : Nat.ble (d' + 1) d = true := by rfl) (hst : Nat.ble st.length 4 = true := by rfl) : Wx d b y u pc ls stk Y P E := by
  intro L z0 X0
  refine v_callV K ht (hC L) hsh hcl hc9 hs ⟨rfl, rfl, rfl⟩ (fun _ _ h => h) hlen hd (Bool.and_eq_true_iff.mp hr).2 hst (fun w z2 X2 h _ => ?_) (fun x z2 X2 h _ => ?_)
  · obtain ⟨g, h1, h2, h3⟩ := h
    exact h3.elim
  · obtain ⟨g, h1, h2, rfl, rfl⟩ := h
    rw [h1, h2]
    have k9 := kx L z0 X0
    rw [Nat.mul_add] at k9
    exact k9
theorem x_caught (x : Nat) (hx : x < 4) (pre : List ExceptionTableEntry) (xe : ExceptionTableEntry) (suf : List ExceptionTableEntry) (hsplit : tableOf (hhy y) = pre ++ xe :: suf) (hpre : hpr x pre) (hcov : covers xe pc = true) (hct : xe.catchType = hcp x) (hcid : cid y = 13)
    (kk : ∀ a : Nat, Wx d b y u xe.handlerPc ls [aX a] Y P E) : Wy d b y u pc ls x Y P E := fun L z0 X0 => v_caught x hx pre xe suf hsplit hpre hcov hct hcid (fun a => kk a L z0 X0)
end XM
/-- the law's asker -/
def fn_300 (a1 : Int32) (a2 : Int32) (Y : Sm) : Option (Int32 × Sm) :=
  bx (fn_111 a1 a2 Y) (fun x5 Y1 => if x5 = 0 then some ((nI 1), Y1) else none) fun v3 Y1 => wr (sJ Y1 66 0 0 ((v3).toInt64)) fun Y4 => some ((nI 0), Y4)
set_option maxRecDepth 20000 in
set_option maxHeartbeats 4000000 in
theorem sn_300 (a1 : Int32) (a2 : Int32) {Y : Sm} (v : Int32) (Z : Sm) (h : fn_300 a1 a2 Y = some (v, Z)) : Mw 8 2 300 [aR 0 0, aI a1, aI a2, aR 66 0] Y (Rt (some (aI v)) Z) nX := by
  refine Mw_of [(0, aR 0 0), (1, aI a1), (2, aI a2), (3, aR 66 0)] ?_
  generalize ho : (v, Z) = o at h
  have hv9 : v = o.1 := congrArg Prod.fst ho
  have hZ9 : Z = o.2 := congrArg Prod.snd ho
  clear ho
  subst hv9 hZ9
  unfold fn_300 at h
  refine x_sg k300 5 (pc' := 5) (ls' := [(0, aR 0 0), (1, aI a1), (2, aI a2), (3, aR 66 0)]) (st' := [aI a2, aI a1, aR 0 0, aI (nI 0), aR 66 0]) (cs' := []) (fun _ => rfl) al0 ?_
  obtain ⟨o6, Y1, hv2, ⟨v3, ho7, h⟩ | ⟨x5, ho7, h⟩⟩ := bx_some h
  · subst ho7
    refine x_cV1 k300 (sn_111 _ _ _ _ hv2) rfl (st := [aI (nI 0), aR 66 0]) rfl ?_
    refine x_sw k300 2 (Z := (sJ Y1 66 0 0 ((v3).toInt64))) (pc' := 10) (ls' := [(0, aR 0 0), (1, aI a1), (2, aI a2), (3, aR 66 0)]) (st' := []) (cs' := [vp_in (nI 0) 1, allw 66 0]) (fun _ => rfl) rfl (al2 (vin rfl) (al1 rfl)) ?_
    replace h := wr_some h
    generalize (sJ Y1 66 0 0 ((v3).toInt64)) = Y4 at h ⊢
    refine x_sg k300 2 (pc' := 18) (ls' := [(0, aR 0 0), (1, aI a1), (2, aI a2), (3, aR 66 0)]) (st' := [aI (nI 0)]) (cs' := []) (fun _ => rfl) al0 ?_
    obtain rfl := Option.some.inj h
    exact x_ireturn k300 ⟨rfl, rfl⟩
  · subst ho7
    by_cases hx0 : x5 = 0
    · subst hx0
      replace h := if_t rfl h
      refine x_cVx k300 (sn_111 _ _ _ _ hv2) rfl (st := [aI (nI 0), aR 66 0]) rfl ?_
      refine x_caught 0 (by decide) ([] : List ExceptionTableEntry) ⟨0, 10, 13, 13⟩ [] rfl hpr_n rfl rfl rfl (fun a9 => ?_)
      refine x_sg k300 1 (pc' := 15) (ls' := [(0, aR 0 0), (1, aI a1), (2, aI a2), (3, aR 66 0), (4, aX a9)]) (st' := []) (cs' := []) (fun _ => rfl) al0 ?_
      refine x_sg k300 1 (pc' := 16) (ls' := [(0, aR 0 0), (1, aI a1), (2, aI a2), (3, aR 66 0), (4, aX a9)]) (st' := [aI (nI 1)]) (cs' := []) (fun _ => rfl) al0 ?_
      obtain rfl := Option.some.inj h
      exact x_ireturn k300 ⟨rfl, rfl⟩
    replace h := if_f hx0 h
    cases h
/-- the law's kind -/
def fn_301 (a1 : Int32) (a2 : Int32) (Y : Sm) : Option (Int32 × Sm) :=
  bx (fn_112 a1 a2 Y) (fun x5 Y1 => if x5 = 0 then some ((nI 1), Y1) else none) fun v3 Y1 => wr (sJ Y1 66 0 0 ((v3).toInt64)) fun Y4 => some ((nI 0), Y4)
set_option maxRecDepth 20000 in
set_option maxHeartbeats 4000000 in
theorem sn_301 (a1 : Int32) (a2 : Int32) {Y : Sm} (v : Int32) (Z : Sm) (h : fn_301 a1 a2 Y = some (v, Z)) : Mw 8 2 301 [aR 0 0, aI a1, aI a2, aR 66 0] Y (Rt (some (aI v)) Z) nX := by
  refine Mw_of [(0, aR 0 0), (1, aI a1), (2, aI a2), (3, aR 66 0)] ?_
  generalize ho : (v, Z) = o at h
  have hv9 : v = o.1 := congrArg Prod.fst ho
  have hZ9 : Z = o.2 := congrArg Prod.snd ho
  clear ho
  subst hv9 hZ9
  unfold fn_301 at h
  refine x_sg k301 5 (pc' := 5) (ls' := [(0, aR 0 0), (1, aI a1), (2, aI a2), (3, aR 66 0)]) (st' := [aI a2, aI a1, aR 0 0, aI (nI 0), aR 66 0]) (cs' := []) (fun _ => rfl) al0 ?_
  obtain ⟨o6, Y1, hv2, ⟨v3, ho7, h⟩ | ⟨x5, ho7, h⟩⟩ := bx_some h
  · subst ho7
    refine x_cV1 k301 (sn_112 _ _ _ _ hv2) rfl (st := [aI (nI 0), aR 66 0]) rfl ?_
    refine x_sw k301 2 (Z := (sJ Y1 66 0 0 ((v3).toInt64))) (pc' := 10) (ls' := [(0, aR 0 0), (1, aI a1), (2, aI a2), (3, aR 66 0)]) (st' := []) (cs' := [vp_in (nI 0) 1, allw 66 0]) (fun _ => rfl) rfl (al2 (vin rfl) (al1 rfl)) ?_
    replace h := wr_some h
    generalize (sJ Y1 66 0 0 ((v3).toInt64)) = Y4 at h ⊢
    refine x_sg k301 2 (pc' := 18) (ls' := [(0, aR 0 0), (1, aI a1), (2, aI a2), (3, aR 66 0)]) (st' := [aI (nI 0)]) (cs' := []) (fun _ => rfl) al0 ?_
    obtain rfl := Option.some.inj h
    exact x_ireturn k301 ⟨rfl, rfl⟩
  · subst ho7
    by_cases hx0 : x5 = 0
    · subst hx0
      replace h := if_t rfl h
      refine x_cVx k301 (sn_112 _ _ _ _ hv2) rfl (st := [aI (nI 0), aR 66 0]) rfl ?_
      refine x_caught 0 (by decide) ([] : List ExceptionTableEntry) ⟨0, 10, 13, 13⟩ [] rfl hpr_n rfl rfl rfl (fun a9 => ?_)
      refine x_sg k301 1 (pc' := 15) (ls' := [(0, aR 0 0), (1, aI a1), (2, aI a2), (3, aR 66 0), (4, aX a9)]) (st' := []) (cs' := []) (fun _ => rfl) al0 ?_
      refine x_sg k301 1 (pc' := 16) (ls' := [(0, aR 0 0), (1, aI a1), (2, aI a2), (3, aR 66 0), (4, aX a9)]) (st' := [aI (nI 1)]) (cs' := []) (fun _ => rfl) al0 ?_
      obtain rfl := Option.some.inj h
      exact x_ireturn k301 ⟨rfl, rfl⟩
    replace h := if_f hx0 h
    cases h
/-- the law's ballot -/
def fn_302 (a1 : Int32) (a2 : Int32) (Y : Sm) : Option (Int32 × Sm) :=
  bx (fn_113 a1 a2 Y) (fun x5 Y1 => if x5 = 0 then some ((nI 1), Y1) else none) fun v3 Y1 => wr (sJ Y1 66 0 0 ((v3).toInt64)) fun Y4 => some ((nI 0), Y4)
set_option maxRecDepth 20000 in
set_option maxHeartbeats 4000000 in
theorem sn_302 (a1 : Int32) (a2 : Int32) {Y : Sm} (v : Int32) (Z : Sm) (h : fn_302 a1 a2 Y = some (v, Z)) : Mw 8 2 302 [aR 0 0, aI a1, aI a2, aR 66 0] Y (Rt (some (aI v)) Z) nX := by
  refine Mw_of [(0, aR 0 0), (1, aI a1), (2, aI a2), (3, aR 66 0)] ?_
  generalize ho : (v, Z) = o at h
  have hv9 : v = o.1 := congrArg Prod.fst ho
  have hZ9 : Z = o.2 := congrArg Prod.snd ho
  clear ho
  subst hv9 hZ9
  unfold fn_302 at h
  refine x_sg k302 5 (pc' := 5) (ls' := [(0, aR 0 0), (1, aI a1), (2, aI a2), (3, aR 66 0)]) (st' := [aI a2, aI a1, aR 0 0, aI (nI 0), aR 66 0]) (cs' := []) (fun _ => rfl) al0 ?_
  obtain ⟨o6, Y1, hv2, ⟨v3, ho7, h⟩ | ⟨x5, ho7, h⟩⟩ := bx_some h
  · subst ho7
    refine x_cV1 k302 (sn_113 _ _ _ _ hv2) rfl (st := [aI (nI 0), aR 66 0]) rfl ?_
    refine x_sw k302 2 (Z := (sJ Y1 66 0 0 ((v3).toInt64))) (pc' := 10) (ls' := [(0, aR 0 0), (1, aI a1), (2, aI a2), (3, aR 66 0)]) (st' := []) (cs' := [vp_in (nI 0) 1, allw 66 0]) (fun _ => rfl) rfl (al2 (vin rfl) (al1 rfl)) ?_
    replace h := wr_some h
    generalize (sJ Y1 66 0 0 ((v3).toInt64)) = Y4 at h ⊢
    refine x_sg k302 2 (pc' := 18) (ls' := [(0, aR 0 0), (1, aI a1), (2, aI a2), (3, aR 66 0)]) (st' := [aI (nI 0)]) (cs' := []) (fun _ => rfl) al0 ?_
    obtain rfl := Option.some.inj h
    exact x_ireturn k302 ⟨rfl, rfl⟩
  · subst ho7
    by_cases hx0 : x5 = 0
    · subst hx0
      replace h := if_t rfl h
      refine x_cVx k302 (sn_113 _ _ _ _ hv2) rfl (st := [aI (nI 0), aR 66 0]) rfl ?_
      refine x_caught 0 (by decide) ([] : List ExceptionTableEntry) ⟨0, 10, 13, 13⟩ [] rfl hpr_n rfl rfl rfl (fun a9 => ?_)
      refine x_sg k302 1 (pc' := 15) (ls' := [(0, aR 0 0), (1, aI a1), (2, aI a2), (3, aR 66 0), (4, aX a9)]) (st' := []) (cs' := []) (fun _ => rfl) al0 ?_
      refine x_sg k302 1 (pc' := 16) (ls' := [(0, aR 0 0), (1, aI a1), (2, aI a2), (3, aR 66 0), (4, aX a9)]) (st' := [aI (nI 1)]) (cs' := []) (fun _ => rfl) al0 ?_
      obtain rfl := Option.some.inj h
      exact x_ireturn k302 ⟨rfl, rfl⟩
    replace h := if_f hx0 h
    cases h
/-- the law's order -/
def fn_303 (a1 : Int32) (Y : Sm) : Option (Int32 × Sm) :=
  bx (fn_114 a1 Y) (fun x5 Y1 => if x5 = 0 then some ((nI 1), Y1) else none) fun v3 Y1 => wr (sJ Y1 66 0 0 ((v3).toInt64)) fun Y4 => some ((nI 0), Y4)
set_option maxRecDepth 20000 in
set_option maxHeartbeats 4000000 in
theorem sn_303 (a1 : Int32) {Y : Sm} (v : Int32) (Z : Sm) (h : fn_303 a1 Y = some (v, Z)) : Mw 8 1 303 [aR 0 0, aI a1, aR 66 0] Y (Rt (some (aI v)) Z) nX := by
  refine Mw_of [(0, aR 0 0), (1, aI a1), (2, aR 66 0)] ?_
  generalize ho : (v, Z) = o at h
  have hv9 : v = o.1 := congrArg Prod.fst ho
  have hZ9 : Z = o.2 := congrArg Prod.snd ho
  clear ho
  subst hv9 hZ9
  unfold fn_303 at h
  refine x_sg k303 4 (pc' := 4) (ls' := [(0, aR 0 0), (1, aI a1), (2, aR 66 0)]) (st' := [aI a1, aR 0 0, aI (nI 0), aR 66 0]) (cs' := []) (fun _ => rfl) al0 ?_
  obtain ⟨o6, Y1, hv2, ⟨v3, ho7, h⟩ | ⟨x5, ho7, h⟩⟩ := bx_some h
  · subst ho7
    refine x_cV1 k303 (sn_114 _ _ _ hv2) rfl (st := [aI (nI 0), aR 66 0]) rfl ?_
    refine x_sw k303 2 (Z := (sJ Y1 66 0 0 ((v3).toInt64))) (pc' := 9) (ls' := [(0, aR 0 0), (1, aI a1), (2, aR 66 0)]) (st' := []) (cs' := [vp_in (nI 0) 1, allw 66 0]) (fun _ => rfl) rfl (al2 (vin rfl) (al1 rfl)) ?_
    replace h := wr_some h
    generalize (sJ Y1 66 0 0 ((v3).toInt64)) = Y4 at h ⊢
    refine x_sg k303 2 (pc' := 16) (ls' := [(0, aR 0 0), (1, aI a1), (2, aR 66 0)]) (st' := [aI (nI 0)]) (cs' := []) (fun _ => rfl) al0 ?_
    obtain rfl := Option.some.inj h
    exact x_ireturn k303 ⟨rfl, rfl⟩
  · subst ho7
    by_cases hx0 : x5 = 0
    · subst hx0
      replace h := if_t rfl h
      refine x_cVx k303 (sn_114 _ _ _ hv2) rfl (st := [aI (nI 0), aR 66 0]) rfl ?_
      refine x_caught 0 (by decide) ([] : List ExceptionTableEntry) ⟨0, 9, 12, 13⟩ [] rfl hpr_n rfl rfl rfl (fun a9 => ?_)
      refine x_sg k303 1 (pc' := 13) (ls' := [(0, aR 0 0), (1, aI a1), (2, aR 66 0), (3, aX a9)]) (st' := []) (cs' := []) (fun _ => rfl) al0 ?_
      refine x_sg k303 1 (pc' := 14) (ls' := [(0, aR 0 0), (1, aI a1), (2, aR 66 0), (3, aX a9)]) (st' := [aI (nI 1)]) (cs' := []) (fun _ => rfl) al0 ?_
      obtain rfl := Option.some.inj h
      exact x_ireturn k303 ⟨rfl, rfl⟩
    replace h := if_f hx0 h
    cases h
/-- the law's request -/
def fn_304 (a1 : Int32) (a2 : Int32) (Y : Sm) : Option (Int32 × Sm) :=
  bx (fn_115 a1 a2 Y) (fun x5 Y1 => if x5 = 1 then some ((nI 1), Y1) else if x5 = 3 then some ((nI 2), Y1) else none) fun v3 Y1 => wr (sJ Y1 66 0 0 ((v3).toInt64)) fun Y4 => some ((nI 0), Y4)
set_option maxRecDepth 20000 in
set_option maxHeartbeats 4000000 in
theorem sn_304 (a1 : Int32) (a2 : Int32) {Y : Sm} (v : Int32) (Z : Sm) (h : fn_304 a1 a2 Y = some (v, Z)) : Mw 8 1 304 [aR 0 0, aI a1, aI a2, aR 66 0] Y (Rt (some (aI v)) Z) nX := by
  refine Mw_of [(0, aR 0 0), (1, aI a1), (2, aI a2), (3, aR 66 0)] ?_
  generalize ho : (v, Z) = o at h
  have hv9 : v = o.1 := congrArg Prod.fst ho
  have hZ9 : Z = o.2 := congrArg Prod.snd ho
  clear ho
  subst hv9 hZ9
  unfold fn_304 at h
  refine x_sg k304 5 (pc' := 5) (ls' := [(0, aR 0 0), (1, aI a1), (2, aI a2), (3, aR 66 0)]) (st' := [aI a2, aI a1, aR 0 0, aI (nI 0), aR 66 0]) (cs' := []) (fun _ => rfl) al0 ?_
  obtain ⟨o6, Y1, hv2, ⟨v3, ho7, h⟩ | ⟨x5, ho7, h⟩⟩ := bx_some h
  · subst ho7
    refine x_cV1 k304 (sn_115 _ _ _ _ hv2) rfl (st := [aI (nI 0), aR 66 0]) rfl ?_
    refine x_sw k304 2 (Z := (sJ Y1 66 0 0 ((v3).toInt64))) (pc' := 10) (ls' := [(0, aR 0 0), (1, aI a1), (2, aI a2), (3, aR 66 0)]) (st' := []) (cs' := [vp_in (nI 0) 1, allw 66 0]) (fun _ => rfl) rfl (al2 (vin rfl) (al1 rfl)) ?_
    replace h := wr_some h
    generalize (sJ Y1 66 0 0 ((v3).toInt64)) = Y4 at h ⊢
    refine x_sg k304 2 (pc' := 22) (ls' := [(0, aR 0 0), (1, aI a1), (2, aI a2), (3, aR 66 0)]) (st' := [aI (nI 0)]) (cs' := []) (fun _ => rfl) al0 ?_
    obtain rfl := Option.some.inj h
    exact x_ireturn k304 ⟨rfl, rfl⟩
  · subst ho7
    by_cases hx0 : x5 = 1
    · subst hx0
      replace h := if_t rfl h
      refine x_cVx k304 (sn_115 _ _ _ _ hv2) rfl (st := [aI (nI 0), aR 66 0]) rfl ?_
      refine x_caught 1 (by decide) ([] : List ExceptionTableEntry) ⟨0, 10, 13, 28⟩ [⟨0, 10, 17, 30⟩] rfl hpr_n rfl rfl rfl (fun a9 => ?_)
      refine x_sg k304 1 (pc' := 15) (ls' := [(0, aR 0 0), (1, aI a1), (2, aI a2), (3, aR 66 0), (4, aX a9)]) (st' := []) (cs' := []) (fun _ => rfl) al0 ?_
      refine x_sg k304 1 (pc' := 16) (ls' := [(0, aR 0 0), (1, aI a1), (2, aI a2), (3, aR 66 0), (4, aX a9)]) (st' := [aI (nI 1)]) (cs' := []) (fun _ => rfl) al0 ?_
      obtain rfl := Option.some.inj h
      exact x_ireturn k304 ⟨rfl, rfl⟩
    replace h := if_f hx0 h
    by_cases hx1 : x5 = 3
    · subst hx1
      replace h := if_t rfl h
      refine x_cVx k304 (sn_115 _ _ _ _ hv2) rfl (st := [aI (nI 0), aR 66 0]) rfl ?_
      refine x_caught 3 (by decide) ([⟨0, 10, 13, 28⟩] : List ExceptionTableEntry) ⟨0, 10, 17, 30⟩ [] rfl (hpr_c (x' := 1) (by decide) (by decide) rfl hpr_n) rfl rfl rfl (fun a9 => ?_)
      refine x_sg k304 1 (pc' := 19) (ls' := [(0, aR 0 0), (1, aI a1), (2, aI a2), (3, aR 66 0), (4, aX a9)]) (st' := []) (cs' := []) (fun _ => rfl) al0 ?_
      refine x_sg k304 1 (pc' := 20) (ls' := [(0, aR 0 0), (1, aI a1), (2, aI a2), (3, aR 66 0), (4, aX a9)]) (st' := [aI (nI 2)]) (cs' := []) (fun _ => rfl) al0 ?_
      obtain rfl := Option.some.inj h
      exact x_ireturn k304 ⟨rfl, rfl⟩
    replace h := if_f hx1 h
    cases h
/-- the law's line -/
def fn_305 (a1 : Int32) (a2 : Int32) (Y : Sm) : Option (Int32 × Sm) :=
  bx (fn_116 a1 a2 Y) (fun x5 Y1 => if x5 = 0 then some ((nI 1), Y1) else if x5 = 3 then some ((nI 2), Y1) else none) fun v3 Y1 => wr (sJ Y1 66 0 0 ((v3).toInt64)) fun Y4 => some ((nI 0), Y4)
set_option maxRecDepth 20000 in
set_option maxHeartbeats 4000000 in
theorem sn_305 (a1 : Int32) (a2 : Int32) {Y : Sm} (v : Int32) (Z : Sm) (h : fn_305 a1 a2 Y = some (v, Z)) : Mw 9 2 305 [aR 0 0, aI a1, aI a2, aR 66 0] Y (Rt (some (aI v)) Z) nX := by
  refine Mw_of [(0, aR 0 0), (1, aI a1), (2, aI a2), (3, aR 66 0)] ?_
  generalize ho : (v, Z) = o at h
  have hv9 : v = o.1 := congrArg Prod.fst ho
  have hZ9 : Z = o.2 := congrArg Prod.snd ho
  clear ho
  subst hv9 hZ9
  unfold fn_305 at h
  refine x_sg k305 5 (pc' := 5) (ls' := [(0, aR 0 0), (1, aI a1), (2, aI a2), (3, aR 66 0)]) (st' := [aI a2, aI a1, aR 0 0, aI (nI 0), aR 66 0]) (cs' := []) (fun _ => rfl) al0 ?_
  obtain ⟨o6, Y1, hv2, ⟨v3, ho7, h⟩ | ⟨x5, ho7, h⟩⟩ := bx_some h
  · subst ho7
    refine x_cV1 k305 (sn_116 _ _ _ _ hv2) rfl (st := [aI (nI 0), aR 66 0]) rfl ?_
    refine x_sw k305 2 (Z := (sJ Y1 66 0 0 ((v3).toInt64))) (pc' := 10) (ls' := [(0, aR 0 0), (1, aI a1), (2, aI a2), (3, aR 66 0)]) (st' := []) (cs' := [vp_in (nI 0) 1, allw 66 0]) (fun _ => rfl) rfl (al2 (vin rfl) (al1 rfl)) ?_
    replace h := wr_some h
    generalize (sJ Y1 66 0 0 ((v3).toInt64)) = Y4 at h ⊢
    refine x_sg k305 2 (pc' := 22) (ls' := [(0, aR 0 0), (1, aI a1), (2, aI a2), (3, aR 66 0)]) (st' := [aI (nI 0)]) (cs' := []) (fun _ => rfl) al0 ?_
    obtain rfl := Option.some.inj h
    exact x_ireturn k305 ⟨rfl, rfl⟩
  · subst ho7
    by_cases hx0 : x5 = 0
    · subst hx0
      replace h := if_t rfl h
      refine x_cVx k305 (sn_116 _ _ _ _ hv2) rfl (st := [aI (nI 0), aR 66 0]) rfl ?_
      refine x_caught 0 (by decide) ([] : List ExceptionTableEntry) ⟨0, 10, 13, 13⟩ [⟨0, 10, 17, 30⟩] rfl hpr_n rfl rfl rfl (fun a9 => ?_)
      refine x_sg k305 1 (pc' := 15) (ls' := [(0, aR 0 0), (1, aI a1), (2, aI a2), (3, aR 66 0), (4, aX a9)]) (st' := []) (cs' := []) (fun _ => rfl) al0 ?_
      refine x_sg k305 1 (pc' := 16) (ls' := [(0, aR 0 0), (1, aI a1), (2, aI a2), (3, aR 66 0), (4, aX a9)]) (st' := [aI (nI 1)]) (cs' := []) (fun _ => rfl) al0 ?_
      obtain rfl := Option.some.inj h
      exact x_ireturn k305 ⟨rfl, rfl⟩
    replace h := if_f hx0 h
    by_cases hx1 : x5 = 3
    · subst hx1
      replace h := if_t rfl h
      refine x_cVx k305 (sn_116 _ _ _ _ hv2) rfl (st := [aI (nI 0), aR 66 0]) rfl ?_
      refine x_caught 3 (by decide) ([⟨0, 10, 13, 13⟩] : List ExceptionTableEntry) ⟨0, 10, 17, 30⟩ [] rfl (hpr_c (x' := 0) (by decide) (by decide) rfl hpr_n) rfl rfl rfl (fun a9 => ?_)
      refine x_sg k305 1 (pc' := 19) (ls' := [(0, aR 0 0), (1, aI a1), (2, aI a2), (3, aR 66 0), (4, aX a9)]) (st' := []) (cs' := []) (fun _ => rfl) al0 ?_
      refine x_sg k305 1 (pc' := 20) (ls' := [(0, aR 0 0), (1, aI a1), (2, aI a2), (3, aR 66 0), (4, aX a9)]) (st' := [aI (nI 2)]) (cs' := []) (fun _ => rfl) al0 ?_
      obtain rfl := Option.some.inj h
      exact x_ireturn k305 ⟨rfl, rfl⟩
    replace h := if_f hx1 h
    cases h
/-- the law's answer -/
def fn_306 (a1 : Int32) (a2 : Int32) (Y : Sm) : Option (Int32 × Sm) :=
  bx (fn_118 a1 a2 Y) (fun x5 Y1 => if x5 = 1 then some ((nI 1), Y1) else if x5 = 3 then some ((nI 2), Y1) else none) fun v3 Y1 => wr (sJ Y1 66 0 0 ((v3).toInt64)) fun Y4 => some ((nI 0), Y4)
set_option maxRecDepth 20000 in
set_option maxHeartbeats 4000000 in
theorem sn_306 (a1 : Int32) (a2 : Int32) {Y : Sm} (v : Int32) (Z : Sm) (h : fn_306 a1 a2 Y = some (v, Z)) : Mw 7 1 306 [aR 0 0, aI a1, aI a2, aR 66 0] Y (Rt (some (aI v)) Z) nX := by
  refine Mw_of [(0, aR 0 0), (1, aI a1), (2, aI a2), (3, aR 66 0)] ?_
  generalize ho : (v, Z) = o at h
  have hv9 : v = o.1 := congrArg Prod.fst ho
  have hZ9 : Z = o.2 := congrArg Prod.snd ho
  clear ho
  subst hv9 hZ9
  unfold fn_306 at h
  refine x_sg k306 5 (pc' := 5) (ls' := [(0, aR 0 0), (1, aI a1), (2, aI a2), (3, aR 66 0)]) (st' := [aI a2, aI a1, aR 0 0, aI (nI 0), aR 66 0]) (cs' := []) (fun _ => rfl) al0 ?_
  obtain ⟨o6, Y1, hv2, ⟨v3, ho7, h⟩ | ⟨x5, ho7, h⟩⟩ := bx_some h
  · subst ho7
    refine x_cV1 k306 (sn_118 _ _ _ _ hv2) rfl (st := [aI (nI 0), aR 66 0]) rfl ?_
    refine x_sw k306 2 (Z := (sJ Y1 66 0 0 ((v3).toInt64))) (pc' := 10) (ls' := [(0, aR 0 0), (1, aI a1), (2, aI a2), (3, aR 66 0)]) (st' := []) (cs' := [vp_in (nI 0) 1, allw 66 0]) (fun _ => rfl) rfl (al2 (vin rfl) (al1 rfl)) ?_
    replace h := wr_some h
    generalize (sJ Y1 66 0 0 ((v3).toInt64)) = Y4 at h ⊢
    refine x_sg k306 2 (pc' := 22) (ls' := [(0, aR 0 0), (1, aI a1), (2, aI a2), (3, aR 66 0)]) (st' := [aI (nI 0)]) (cs' := []) (fun _ => rfl) al0 ?_
    obtain rfl := Option.some.inj h
    exact x_ireturn k306 ⟨rfl, rfl⟩
  · subst ho7
    by_cases hx0 : x5 = 1
    · subst hx0
      replace h := if_t rfl h
      refine x_cVx k306 (sn_118 _ _ _ _ hv2) rfl (st := [aI (nI 0), aR 66 0]) rfl ?_
      refine x_caught 1 (by decide) ([] : List ExceptionTableEntry) ⟨0, 10, 13, 28⟩ [⟨0, 10, 17, 30⟩] rfl hpr_n rfl rfl rfl (fun a9 => ?_)
      refine x_sg k306 1 (pc' := 15) (ls' := [(0, aR 0 0), (1, aI a1), (2, aI a2), (3, aR 66 0), (4, aX a9)]) (st' := []) (cs' := []) (fun _ => rfl) al0 ?_
      refine x_sg k306 1 (pc' := 16) (ls' := [(0, aR 0 0), (1, aI a1), (2, aI a2), (3, aR 66 0), (4, aX a9)]) (st' := [aI (nI 1)]) (cs' := []) (fun _ => rfl) al0 ?_
      obtain rfl := Option.some.inj h
      exact x_ireturn k306 ⟨rfl, rfl⟩
    replace h := if_f hx0 h
    by_cases hx1 : x5 = 3
    · subst hx1
      replace h := if_t rfl h
      refine x_cVx k306 (sn_118 _ _ _ _ hv2) rfl (st := [aI (nI 0), aR 66 0]) rfl ?_
      refine x_caught 3 (by decide) ([⟨0, 10, 13, 28⟩] : List ExceptionTableEntry) ⟨0, 10, 17, 30⟩ [] rfl (hpr_c (x' := 1) (by decide) (by decide) rfl hpr_n) rfl rfl rfl (fun a9 => ?_)
      refine x_sg k306 1 (pc' := 19) (ls' := [(0, aR 0 0), (1, aI a1), (2, aI a2), (3, aR 66 0), (4, aX a9)]) (st' := []) (cs' := []) (fun _ => rfl) al0 ?_
      refine x_sg k306 1 (pc' := 20) (ls' := [(0, aR 0 0), (1, aI a1), (2, aI a2), (3, aR 66 0), (4, aX a9)]) (st' := [aI (nI 2)]) (cs' := []) (fun _ => rfl) al0 ?_
      obtain rfl := Option.some.inj h
      exact x_ireturn k306 ⟨rfl, rfl⟩
    replace h := if_f hx1 h
    cases h
/-- the law's points -/
def fn_307 (a1 : Int32) (Y : Sm) : Option (Int32 × Sm) :=
  bx (fn_119 a1 Y) (fun x5 Y1 => if x5 = 0 then some ((nI 1), Y1) else none) fun v3 Y1 => wr (sJ Y1 66 0 0 ((v3).toInt64)) fun Y4 => some ((nI 0), Y4)
set_option maxRecDepth 20000 in
set_option maxHeartbeats 4000000 in
theorem sn_307 (a1 : Int32) {Y : Sm} (v : Int32) (Z : Sm) (h : fn_307 a1 Y = some (v, Z)) : Mw 8 1 307 [aR 0 0, aI a1, aR 66 0] Y (Rt (some (aI v)) Z) nX := by
  refine Mw_of [(0, aR 0 0), (1, aI a1), (2, aR 66 0)] ?_
  generalize ho : (v, Z) = o at h
  have hv9 : v = o.1 := congrArg Prod.fst ho
  have hZ9 : Z = o.2 := congrArg Prod.snd ho
  clear ho
  subst hv9 hZ9
  unfold fn_307 at h
  refine x_sg k307 4 (pc' := 4) (ls' := [(0, aR 0 0), (1, aI a1), (2, aR 66 0)]) (st' := [aI a1, aR 0 0, aI (nI 0), aR 66 0]) (cs' := []) (fun _ => rfl) al0 ?_
  obtain ⟨o6, Y1, hv2, ⟨v3, ho7, h⟩ | ⟨x5, ho7, h⟩⟩ := bx_some h
  · subst ho7
    refine x_cV1 k307 (sn_119 _ _ _ hv2) rfl (st := [aI (nI 0), aR 66 0]) rfl ?_
    refine x_sw k307 2 (Z := (sJ Y1 66 0 0 ((v3).toInt64))) (pc' := 9) (ls' := [(0, aR 0 0), (1, aI a1), (2, aR 66 0)]) (st' := []) (cs' := [vp_in (nI 0) 1, allw 66 0]) (fun _ => rfl) rfl (al2 (vin rfl) (al1 rfl)) ?_
    replace h := wr_some h
    generalize (sJ Y1 66 0 0 ((v3).toInt64)) = Y4 at h ⊢
    refine x_sg k307 2 (pc' := 16) (ls' := [(0, aR 0 0), (1, aI a1), (2, aR 66 0)]) (st' := [aI (nI 0)]) (cs' := []) (fun _ => rfl) al0 ?_
    obtain rfl := Option.some.inj h
    exact x_ireturn k307 ⟨rfl, rfl⟩
  · subst ho7
    by_cases hx0 : x5 = 0
    · subst hx0
      replace h := if_t rfl h
      refine x_cVx k307 (sn_119 _ _ _ hv2) rfl (st := [aI (nI 0), aR 66 0]) rfl ?_
      refine x_caught 0 (by decide) ([] : List ExceptionTableEntry) ⟨0, 9, 12, 13⟩ [] rfl hpr_n rfl rfl rfl (fun a9 => ?_)
      refine x_sg k307 1 (pc' := 13) (ls' := [(0, aR 0 0), (1, aI a1), (2, aR 66 0), (3, aX a9)]) (st' := []) (cs' := []) (fun _ => rfl) al0 ?_
      refine x_sg k307 1 (pc' := 14) (ls' := [(0, aR 0 0), (1, aI a1), (2, aR 66 0), (3, aX a9)]) (st' := [aI (nI 1)]) (cs' := []) (fun _ => rfl) al0 ?_
      obtain rfl := Option.some.inj h
      exact x_ireturn k307 ⟨rfl, rfl⟩
    replace h := if_f hx0 h
    cases h
/-- the law's firsts -/
def fn_308 (a1 : Int32) (a2 : Int32) (Y : Sm) : Option (Int32 × Sm) :=
  bx (fn_120 a1 a2 Y) (fun x5 Y1 => if x5 = 0 then some ((nI 1), Y1) else none) fun v3 Y1 => wr (sJ Y1 66 0 0 ((v3).toInt64)) fun Y4 => some ((nI 0), Y4)
set_option maxRecDepth 20000 in
set_option maxHeartbeats 4000000 in
theorem sn_308 (a1 : Int32) (a2 : Int32) {Y : Sm} (v : Int32) (Z : Sm) (h : fn_308 a1 a2 Y = some (v, Z)) : Mw 8 2 308 [aR 0 0, aI a1, aI a2, aR 66 0] Y (Rt (some (aI v)) Z) nX := by
  refine Mw_of [(0, aR 0 0), (1, aI a1), (2, aI a2), (3, aR 66 0)] ?_
  generalize ho : (v, Z) = o at h
  have hv9 : v = o.1 := congrArg Prod.fst ho
  have hZ9 : Z = o.2 := congrArg Prod.snd ho
  clear ho
  subst hv9 hZ9
  unfold fn_308 at h
  refine x_sg k308 5 (pc' := 5) (ls' := [(0, aR 0 0), (1, aI a1), (2, aI a2), (3, aR 66 0)]) (st' := [aI a2, aI a1, aR 0 0, aI (nI 0), aR 66 0]) (cs' := []) (fun _ => rfl) al0 ?_
  obtain ⟨o6, Y1, hv2, ⟨v3, ho7, h⟩ | ⟨x5, ho7, h⟩⟩ := bx_some h
  · subst ho7
    refine x_cV1 k308 (sn_120 _ _ _ _ hv2) rfl (st := [aI (nI 0), aR 66 0]) rfl ?_
    refine x_sw k308 2 (Z := (sJ Y1 66 0 0 ((v3).toInt64))) (pc' := 10) (ls' := [(0, aR 0 0), (1, aI a1), (2, aI a2), (3, aR 66 0)]) (st' := []) (cs' := [vp_in (nI 0) 1, allw 66 0]) (fun _ => rfl) rfl (al2 (vin rfl) (al1 rfl)) ?_
    replace h := wr_some h
    generalize (sJ Y1 66 0 0 ((v3).toInt64)) = Y4 at h ⊢
    refine x_sg k308 2 (pc' := 18) (ls' := [(0, aR 0 0), (1, aI a1), (2, aI a2), (3, aR 66 0)]) (st' := [aI (nI 0)]) (cs' := []) (fun _ => rfl) al0 ?_
    obtain rfl := Option.some.inj h
    exact x_ireturn k308 ⟨rfl, rfl⟩
  · subst ho7
    by_cases hx0 : x5 = 0
    · subst hx0
      replace h := if_t rfl h
      refine x_cVx k308 (sn_120 _ _ _ _ hv2) rfl (st := [aI (nI 0), aR 66 0]) rfl ?_
      refine x_caught 0 (by decide) ([] : List ExceptionTableEntry) ⟨0, 10, 13, 13⟩ [] rfl hpr_n rfl rfl rfl (fun a9 => ?_)
      refine x_sg k308 1 (pc' := 15) (ls' := [(0, aR 0 0), (1, aI a1), (2, aI a2), (3, aR 66 0), (4, aX a9)]) (st' := []) (cs' := []) (fun _ => rfl) al0 ?_
      refine x_sg k308 1 (pc' := 16) (ls' := [(0, aR 0 0), (1, aI a1), (2, aI a2), (3, aR 66 0), (4, aX a9)]) (st' := [aI (nI 1)]) (cs' := []) (fun _ => rfl) al0 ?_
      obtain rfl := Option.some.inj h
      exact x_ireturn k308 ⟨rfl, rfl⟩
    replace h := if_f hx0 h
    cases h
/-- the law's beats -/
def fn_309 (a1 : Int32) (a2 : Int32) (Y : Sm) : Option (Int32 × Sm) :=
  bx (fn_121 a1 a2 Y) (fun x6 Y1 => if x6 = 0 then some ((nI 1), Y1) else none) fun v3 Y1 => (if v3 = (nI 0) then wr (sJ Y1 66 0 0 (Int64.ofNat 0)) fun Y4 => some ((nI 0), Y4) else wr (sJ Y1 66 0 0 (Int64.ofNat 1)) fun Y5 => some ((nI 0), Y5))
set_option maxRecDepth 20000 in
set_option maxHeartbeats 4000000 in
theorem sn_309 (a1 : Int32) (a2 : Int32) {Y : Sm} (v : Int32) (Z : Sm) (h : fn_309 a1 a2 Y = some (v, Z)) : Mw 8 2 309 [aR 0 0, aI a1, aI a2, aR 66 0] Y (Rt (some (aI v)) Z) nX := by
  refine Mw_of [(0, aR 0 0), (1, aI a1), (2, aI a2), (3, aR 66 0)] ?_
  generalize ho : (v, Z) = o at h
  have hv9 : v = o.1 := congrArg Prod.fst ho
  have hZ9 : Z = o.2 := congrArg Prod.snd ho
  clear ho
  subst hv9 hZ9
  unfold fn_309 at h
  refine x_sg k309 5 (pc' := 5) (ls' := [(0, aR 0 0), (1, aI a1), (2, aI a2), (3, aR 66 0)]) (st' := [aI a2, aI a1, aR 0 0, aI (nI 0), aR 66 0]) (cs' := []) (fun _ => rfl) al0 ?_
  obtain ⟨o7, Y1, hv2, ⟨v3, ho8, h⟩ | ⟨x6, ho8, h⟩⟩ := bx_some h
  · subst ho8
    refine x_cV1 k309 (sn_121 _ _ _ _ hv2) rfl (st := [aI (nI 0), aR 66 0]) rfl ?_
    refine x_if_eq k309 rfl (fun c => ?_) (fun c => ?_)
    · replace h := if_t c h
      refine x_sw k309 2 (Z := (sJ Y1 66 0 0 (Int64.ofNat 0))) (pc' := 17) (ls' := [(0, aR 0 0), (1, aI a1), (2, aI a2), (3, aR 66 0)]) (st' := []) (cs' := [vp_in (nI 0) 1, allw 66 0]) (fun _ => rfl) rfl (al2 (vin rfl) (al1 rfl)) ?_
      replace h := wr_some h
      generalize (sJ Y1 66 0 0 (Int64.ofNat 0)) = Y4 at h ⊢
      refine x_sg k309 2 (pc' := 25) (ls' := [(0, aR 0 0), (1, aI a1), (2, aI a2), (3, aR 66 0)]) (st' := [aI (nI 0)]) (cs' := []) (fun _ => rfl) al0 ?_
      obtain rfl := Option.some.inj h
      exact x_ireturn k309 ⟨rfl, rfl⟩
    · replace h := if_f c h
      refine x_sw k309 3 (Z := (sJ Y1 66 0 0 (Int64.ofNat 1))) (pc' := 17) (ls' := [(0, aR 0 0), (1, aI a1), (2, aI a2), (3, aR 66 0)]) (st' := []) (cs' := [vp_in (nI 0) 1, allw 66 0]) (fun _ => rfl) rfl (al2 (vin rfl) (al1 rfl)) ?_
      replace h := wr_some h
      generalize (sJ Y1 66 0 0 (Int64.ofNat 1)) = Y5 at h ⊢
      refine x_sg k309 2 (pc' := 25) (ls' := [(0, aR 0 0), (1, aI a1), (2, aI a2), (3, aR 66 0)]) (st' := [aI (nI 0)]) (cs' := []) (fun _ => rfl) al0 ?_
      obtain rfl := Option.some.inj h
      exact x_ireturn k309 ⟨rfl, rfl⟩
  · subst ho8
    by_cases hx0 : x6 = 0
    · subst hx0
      replace h := if_t rfl h
      refine x_cVx k309 (sn_121 _ _ _ _ hv2) rfl (st := [aI (nI 0), aR 66 0]) rfl ?_
      refine x_caught 0 (by decide) ([] : List ExceptionTableEntry) ⟨0, 17, 20, 13⟩ [] rfl hpr_n rfl rfl rfl (fun a9 => ?_)
      refine x_sg k309 1 (pc' := 22) (ls' := [(0, aR 0 0), (1, aI a1), (2, aI a2), (3, aR 66 0), (4, aX a9)]) (st' := []) (cs' := []) (fun _ => rfl) al0 ?_
      refine x_sg k309 1 (pc' := 23) (ls' := [(0, aR 0 0), (1, aI a1), (2, aI a2), (3, aR 66 0), (4, aX a9)]) (st' := [aI (nI 1)]) (cs' := []) (fun _ => rfl) al0 ?_
      obtain rfl := Option.some.inj h
      exact x_ireturn k309 ⟨rfl, rfl⟩
    replace h := if_f hx0 h
    cases h
/-- the law's wins -/
def fn_310 (a1 : Int32) (Y : Sm) : Option (Int32 × Sm) :=
  bx (fn_122 a1 Y) (fun x5 Y1 => if x5 = 0 then some ((nI 1), Y1) else none) fun v3 Y1 => wr (sJ Y1 66 0 0 ((v3).toInt64)) fun Y4 => some ((nI 0), Y4)
set_option maxRecDepth 20000 in
set_option maxHeartbeats 4000000 in
theorem sn_310 (a1 : Int32) {Y : Sm} (v : Int32) (Z : Sm) (h : fn_310 a1 Y = some (v, Z)) : Mw 8 1 310 [aR 0 0, aI a1, aR 66 0] Y (Rt (some (aI v)) Z) nX := by
  refine Mw_of [(0, aR 0 0), (1, aI a1), (2, aR 66 0)] ?_
  generalize ho : (v, Z) = o at h
  have hv9 : v = o.1 := congrArg Prod.fst ho
  have hZ9 : Z = o.2 := congrArg Prod.snd ho
  clear ho
  subst hv9 hZ9
  unfold fn_310 at h
  refine x_sg k310 4 (pc' := 4) (ls' := [(0, aR 0 0), (1, aI a1), (2, aR 66 0)]) (st' := [aI a1, aR 0 0, aI (nI 0), aR 66 0]) (cs' := []) (fun _ => rfl) al0 ?_
  obtain ⟨o6, Y1, hv2, ⟨v3, ho7, h⟩ | ⟨x5, ho7, h⟩⟩ := bx_some h
  · subst ho7
    refine x_cV1 k310 (sn_122 _ _ _ hv2) rfl (st := [aI (nI 0), aR 66 0]) rfl ?_
    refine x_sw k310 2 (Z := (sJ Y1 66 0 0 ((v3).toInt64))) (pc' := 9) (ls' := [(0, aR 0 0), (1, aI a1), (2, aR 66 0)]) (st' := []) (cs' := [vp_in (nI 0) 1, allw 66 0]) (fun _ => rfl) rfl (al2 (vin rfl) (al1 rfl)) ?_
    replace h := wr_some h
    generalize (sJ Y1 66 0 0 ((v3).toInt64)) = Y4 at h ⊢
    refine x_sg k310 2 (pc' := 16) (ls' := [(0, aR 0 0), (1, aI a1), (2, aR 66 0)]) (st' := [aI (nI 0)]) (cs' := []) (fun _ => rfl) al0 ?_
    obtain rfl := Option.some.inj h
    exact x_ireturn k310 ⟨rfl, rfl⟩
  · subst ho7
    by_cases hx0 : x5 = 0
    · subst hx0
      replace h := if_t rfl h
      refine x_cVx k310 (sn_122 _ _ _ hv2) rfl (st := [aI (nI 0), aR 66 0]) rfl ?_
      refine x_caught 0 (by decide) ([] : List ExceptionTableEntry) ⟨0, 9, 12, 13⟩ [] rfl hpr_n rfl rfl rfl (fun a9 => ?_)
      refine x_sg k310 1 (pc' := 13) (ls' := [(0, aR 0 0), (1, aI a1), (2, aR 66 0), (3, aX a9)]) (st' := []) (cs' := []) (fun _ => rfl) al0 ?_
      refine x_sg k310 1 (pc' := 14) (ls' := [(0, aR 0 0), (1, aI a1), (2, aR 66 0), (3, aX a9)]) (st' := [aI (nI 1)]) (cs' := []) (fun _ => rfl) al0 ?_
      obtain rfl := Option.some.inj h
      exact x_ireturn k310 ⟨rfl, rfl⟩
    replace h := if_f hx0 h
    cases h
/-- the law's voted -/
def fn_311 (a1 : Int32) (a2 : Int32) (Y : Sm) : Option (Int32 × Sm) :=
  bx (fn_124 a1 a2 Y) (fun x5 Y1 => if x5 = 0 then some ((nI 1), Y1) else if x5 = 1 then some ((nI 2), Y1) else none) fun v3 Y1 => wr (sJ Y1 66 0 0 ((v3).toInt64)) fun Y4 => some ((nI 0), Y4)
set_option maxRecDepth 20000 in
set_option maxHeartbeats 4000000 in
theorem sn_311 (a1 : Int32) (a2 : Int32) {Y : Sm} (v : Int32) (Z : Sm) (h : fn_311 a1 a2 Y = some (v, Z)) : Mw 9 2 311 [aR 0 0, aI a1, aI a2, aR 66 0] Y (Rt (some (aI v)) Z) nX := by
  refine Mw_of [(0, aR 0 0), (1, aI a1), (2, aI a2), (3, aR 66 0)] ?_
  generalize ho : (v, Z) = o at h
  have hv9 : v = o.1 := congrArg Prod.fst ho
  have hZ9 : Z = o.2 := congrArg Prod.snd ho
  clear ho
  subst hv9 hZ9
  unfold fn_311 at h
  refine x_sg k311 5 (pc' := 5) (ls' := [(0, aR 0 0), (1, aI a1), (2, aI a2), (3, aR 66 0)]) (st' := [aI a2, aI a1, aR 0 0, aI (nI 0), aR 66 0]) (cs' := []) (fun _ => rfl) al0 ?_
  obtain ⟨o6, Y1, hv2, ⟨v3, ho7, h⟩ | ⟨x5, ho7, h⟩⟩ := bx_some h
  · subst ho7
    refine x_cV1 k311 (sn_124 _ _ _ _ hv2) rfl (st := [aI (nI 0), aR 66 0]) rfl ?_
    refine x_sw k311 2 (Z := (sJ Y1 66 0 0 ((v3).toInt64))) (pc' := 10) (ls' := [(0, aR 0 0), (1, aI a1), (2, aI a2), (3, aR 66 0)]) (st' := []) (cs' := [vp_in (nI 0) 1, allw 66 0]) (fun _ => rfl) rfl (al2 (vin rfl) (al1 rfl)) ?_
    replace h := wr_some h
    generalize (sJ Y1 66 0 0 ((v3).toInt64)) = Y4 at h ⊢
    refine x_sg k311 2 (pc' := 22) (ls' := [(0, aR 0 0), (1, aI a1), (2, aI a2), (3, aR 66 0)]) (st' := [aI (nI 0)]) (cs' := []) (fun _ => rfl) al0 ?_
    obtain rfl := Option.some.inj h
    exact x_ireturn k311 ⟨rfl, rfl⟩
  · subst ho7
    by_cases hx0 : x5 = 0
    · subst hx0
      replace h := if_t rfl h
      refine x_cVx k311 (sn_124 _ _ _ _ hv2) rfl (st := [aI (nI 0), aR 66 0]) rfl ?_
      refine x_caught 0 (by decide) ([] : List ExceptionTableEntry) ⟨0, 10, 13, 13⟩ [⟨0, 10, 17, 28⟩] rfl hpr_n rfl rfl rfl (fun a9 => ?_)
      refine x_sg k311 1 (pc' := 15) (ls' := [(0, aR 0 0), (1, aI a1), (2, aI a2), (3, aR 66 0), (4, aX a9)]) (st' := []) (cs' := []) (fun _ => rfl) al0 ?_
      refine x_sg k311 1 (pc' := 16) (ls' := [(0, aR 0 0), (1, aI a1), (2, aI a2), (3, aR 66 0), (4, aX a9)]) (st' := [aI (nI 1)]) (cs' := []) (fun _ => rfl) al0 ?_
      obtain rfl := Option.some.inj h
      exact x_ireturn k311 ⟨rfl, rfl⟩
    replace h := if_f hx0 h
    by_cases hx1 : x5 = 1
    · subst hx1
      replace h := if_t rfl h
      refine x_cVx k311 (sn_124 _ _ _ _ hv2) rfl (st := [aI (nI 0), aR 66 0]) rfl ?_
      refine x_caught 1 (by decide) ([⟨0, 10, 13, 13⟩] : List ExceptionTableEntry) ⟨0, 10, 17, 28⟩ [] rfl (hpr_c (x' := 0) (by decide) (by decide) rfl hpr_n) rfl rfl rfl (fun a9 => ?_)
      refine x_sg k311 1 (pc' := 19) (ls' := [(0, aR 0 0), (1, aI a1), (2, aI a2), (3, aR 66 0), (4, aX a9)]) (st' := []) (cs' := []) (fun _ => rfl) al0 ?_
      refine x_sg k311 1 (pc' := 20) (ls' := [(0, aR 0 0), (1, aI a1), (2, aI a2), (3, aR 66 0), (4, aX a9)]) (st' := [aI (nI 2)]) (cs' := []) (fun _ => rfl) al0 ?_
      obtain rfl := Option.some.inj h
      exact x_ireturn k311 ⟨rfl, rfl⟩
    replace h := if_f hx1 h
    cases h
/-- the law's isDecisive -/
def fn_312 (a1 : Int32) (Y : Sm) : Option (Int32 × Sm) :=
  bx (fn_125 a1 Y) (fun x6 Y1 => if x6 = 0 then some ((nI 1), Y1) else none) fun v3 Y1 => (if v3 = (nI 0) then wr (sJ Y1 66 0 0 (Int64.ofNat 0)) fun Y4 => some ((nI 0), Y4) else wr (sJ Y1 66 0 0 (Int64.ofNat 1)) fun Y5 => some ((nI 0), Y5))
set_option maxRecDepth 20000 in
set_option maxHeartbeats 4000000 in
theorem sn_312 (a1 : Int32) {Y : Sm} (v : Int32) (Z : Sm) (h : fn_312 a1 Y = some (v, Z)) : Mw 9 1 312 [aR 0 0, aI a1, aR 66 0] Y (Rt (some (aI v)) Z) nX := by
  refine Mw_of [(0, aR 0 0), (1, aI a1), (2, aR 66 0)] ?_
  generalize ho : (v, Z) = o at h
  have hv9 : v = o.1 := congrArg Prod.fst ho
  have hZ9 : Z = o.2 := congrArg Prod.snd ho
  clear ho
  subst hv9 hZ9
  unfold fn_312 at h
  refine x_sg k312 4 (pc' := 4) (ls' := [(0, aR 0 0), (1, aI a1), (2, aR 66 0)]) (st' := [aI a1, aR 0 0, aI (nI 0), aR 66 0]) (cs' := []) (fun _ => rfl) al0 ?_
  obtain ⟨o7, Y1, hv2, ⟨v3, ho8, h⟩ | ⟨x6, ho8, h⟩⟩ := bx_some h
  · subst ho8
    refine x_cV1 k312 (sn_125 _ _ _ hv2) rfl (st := [aI (nI 0), aR 66 0]) rfl ?_
    refine x_if_eq k312 rfl (fun c => ?_) (fun c => ?_)
    · replace h := if_t c h
      refine x_sw k312 2 (Z := (sJ Y1 66 0 0 (Int64.ofNat 0))) (pc' := 16) (ls' := [(0, aR 0 0), (1, aI a1), (2, aR 66 0)]) (st' := []) (cs' := [vp_in (nI 0) 1, allw 66 0]) (fun _ => rfl) rfl (al2 (vin rfl) (al1 rfl)) ?_
      replace h := wr_some h
      generalize (sJ Y1 66 0 0 (Int64.ofNat 0)) = Y4 at h ⊢
      refine x_sg k312 2 (pc' := 23) (ls' := [(0, aR 0 0), (1, aI a1), (2, aR 66 0)]) (st' := [aI (nI 0)]) (cs' := []) (fun _ => rfl) al0 ?_
      obtain rfl := Option.some.inj h
      exact x_ireturn k312 ⟨rfl, rfl⟩
    · replace h := if_f c h
      refine x_sw k312 3 (Z := (sJ Y1 66 0 0 (Int64.ofNat 1))) (pc' := 16) (ls' := [(0, aR 0 0), (1, aI a1), (2, aR 66 0)]) (st' := []) (cs' := [vp_in (nI 0) 1, allw 66 0]) (fun _ => rfl) rfl (al2 (vin rfl) (al1 rfl)) ?_
      replace h := wr_some h
      generalize (sJ Y1 66 0 0 (Int64.ofNat 1)) = Y5 at h ⊢
      refine x_sg k312 2 (pc' := 23) (ls' := [(0, aR 0 0), (1, aI a1), (2, aR 66 0)]) (st' := [aI (nI 0)]) (cs' := []) (fun _ => rfl) al0 ?_
      obtain rfl := Option.some.inj h
      exact x_ireturn k312 ⟨rfl, rfl⟩
  · subst ho8
    by_cases hx0 : x6 = 0
    · subst hx0
      replace h := if_t rfl h
      refine x_cVx k312 (sn_125 _ _ _ hv2) rfl (st := [aI (nI 0), aR 66 0]) rfl ?_
      refine x_caught 0 (by decide) ([] : List ExceptionTableEntry) ⟨0, 16, 19, 13⟩ [] rfl hpr_n rfl rfl rfl (fun a9 => ?_)
      refine x_sg k312 1 (pc' := 20) (ls' := [(0, aR 0 0), (1, aI a1), (2, aR 66 0), (3, aX a9)]) (st' := []) (cs' := []) (fun _ => rfl) al0 ?_
      refine x_sg k312 1 (pc' := 21) (ls' := [(0, aR 0 0), (1, aI a1), (2, aR 66 0), (3, aX a9)]) (st' := [aI (nI 1)]) (cs' := []) (fun _ => rfl) al0 ?_
      obtain rfl := Option.some.inj h
      exact x_ireturn k312 ⟨rfl, rfl⟩
    replace h := if_f hx0 h
    cases h
/-- the law's differences -/
def fn_313 (a1 : Int32) (a2 : Int32) (Y : Sm) : Option (Int32 × Sm) :=
  bx (fn_127 a1 a2 Y) (fun x5 Y1 => if x5 = 1 then some ((nI 1), Y1) else none) fun v3 Y1 => wr (sJ Y1 66 0 0 ((v3).toInt64)) fun Y4 => some ((nI 0), Y4)
set_option maxRecDepth 20000 in
set_option maxHeartbeats 4000000 in
theorem sn_313 (a1 : Int32) (a2 : Int32) {Y : Sm} (v : Int32) (Z : Sm) (h : fn_313 a1 a2 Y = some (v, Z)) : Mw 9 2 313 [aR 0 0, aI a1, aI a2, aR 66 0] Y (Rt (some (aI v)) Z) nX := by
  refine Mw_of [(0, aR 0 0), (1, aI a1), (2, aI a2), (3, aR 66 0)] ?_
  generalize ho : (v, Z) = o at h
  have hv9 : v = o.1 := congrArg Prod.fst ho
  have hZ9 : Z = o.2 := congrArg Prod.snd ho
  clear ho
  subst hv9 hZ9
  unfold fn_313 at h
  refine x_sg k313 5 (pc' := 5) (ls' := [(0, aR 0 0), (1, aI a1), (2, aI a2), (3, aR 66 0)]) (st' := [aI a2, aI a1, aR 0 0, aI (nI 0), aR 66 0]) (cs' := []) (fun _ => rfl) al0 ?_
  obtain ⟨o6, Y1, hv2, ⟨v3, ho7, h⟩ | ⟨x5, ho7, h⟩⟩ := bx_some h
  · subst ho7
    refine x_cV1 k313 (sn_127 _ _ _ _ hv2) rfl (st := [aI (nI 0), aR 66 0]) rfl ?_
    refine x_sw k313 2 (Z := (sJ Y1 66 0 0 ((v3).toInt64))) (pc' := 10) (ls' := [(0, aR 0 0), (1, aI a1), (2, aI a2), (3, aR 66 0)]) (st' := []) (cs' := [vp_in (nI 0) 1, allw 66 0]) (fun _ => rfl) rfl (al2 (vin rfl) (al1 rfl)) ?_
    replace h := wr_some h
    generalize (sJ Y1 66 0 0 ((v3).toInt64)) = Y4 at h ⊢
    refine x_sg k313 2 (pc' := 18) (ls' := [(0, aR 0 0), (1, aI a1), (2, aI a2), (3, aR 66 0)]) (st' := [aI (nI 0)]) (cs' := []) (fun _ => rfl) al0 ?_
    obtain rfl := Option.some.inj h
    exact x_ireturn k313 ⟨rfl, rfl⟩
  · subst ho7
    by_cases hx0 : x5 = 1
    · subst hx0
      replace h := if_t rfl h
      refine x_cVx k313 (sn_127 _ _ _ _ hv2) rfl (st := [aI (nI 0), aR 66 0]) rfl ?_
      refine x_caught 1 (by decide) ([] : List ExceptionTableEntry) ⟨0, 10, 13, 28⟩ [] rfl hpr_n rfl rfl rfl (fun a9 => ?_)
      refine x_sg k313 1 (pc' := 15) (ls' := [(0, aR 0 0), (1, aI a1), (2, aI a2), (3, aR 66 0), (4, aX a9)]) (st' := []) (cs' := []) (fun _ => rfl) al0 ?_
      refine x_sg k313 1 (pc' := 16) (ls' := [(0, aR 0 0), (1, aI a1), (2, aI a2), (3, aR 66 0), (4, aX a9)]) (st' := [aI (nI 1)]) (cs' := []) (fun _ => rfl) al0 ?_
      obtain rfl := Option.some.inj h
      exact x_ireturn k313 ⟨rfl, rfl⟩
    replace h := if_f hx0 h
    cases h
/-- the law's distance -/
def fn_314 (a1 : Int32) (Y : Sm) : Option (Int32 × Sm) :=
  bx (fn_128 a1 Y) (fun x5 Y1 => if x5 = 0 then some ((nI 1), Y1) else none) fun v3 Y1 => wr (sJ Y1 66 0 0 ((v3).toInt64)) fun Y4 => some ((nI 0), Y4)
set_option maxRecDepth 20000 in
set_option maxHeartbeats 4000000 in
theorem sn_314 (a1 : Int32) {Y : Sm} (v : Int32) (Z : Sm) (h : fn_314 a1 Y = some (v, Z)) : Mw 8 1 314 [aR 0 0, aI a1, aR 66 0] Y (Rt (some (aI v)) Z) nX := by
  refine Mw_of [(0, aR 0 0), (1, aI a1), (2, aR 66 0)] ?_
  generalize ho : (v, Z) = o at h
  have hv9 : v = o.1 := congrArg Prod.fst ho
  have hZ9 : Z = o.2 := congrArg Prod.snd ho
  clear ho
  subst hv9 hZ9
  unfold fn_314 at h
  refine x_sg k314 4 (pc' := 4) (ls' := [(0, aR 0 0), (1, aI a1), (2, aR 66 0)]) (st' := [aI a1, aR 0 0, aI (nI 0), aR 66 0]) (cs' := []) (fun _ => rfl) al0 ?_
  obtain ⟨o6, Y1, hv2, ⟨v3, ho7, h⟩ | ⟨x5, ho7, h⟩⟩ := bx_some h
  · subst ho7
    refine x_cV1 k314 (sn_128 _ _ _ hv2) rfl (st := [aI (nI 0), aR 66 0]) rfl ?_
    refine x_sw k314 2 (Z := (sJ Y1 66 0 0 ((v3).toInt64))) (pc' := 9) (ls' := [(0, aR 0 0), (1, aI a1), (2, aR 66 0)]) (st' := []) (cs' := [vp_in (nI 0) 1, allw 66 0]) (fun _ => rfl) rfl (al2 (vin rfl) (al1 rfl)) ?_
    replace h := wr_some h
    generalize (sJ Y1 66 0 0 ((v3).toInt64)) = Y4 at h ⊢
    refine x_sg k314 2 (pc' := 16) (ls' := [(0, aR 0 0), (1, aI a1), (2, aR 66 0)]) (st' := [aI (nI 0)]) (cs' := []) (fun _ => rfl) al0 ?_
    obtain rfl := Option.some.inj h
    exact x_ireturn k314 ⟨rfl, rfl⟩
  · subst ho7
    by_cases hx0 : x5 = 0
    · subst hx0
      replace h := if_t rfl h
      refine x_cVx k314 (sn_128 _ _ _ hv2) rfl (st := [aI (nI 0), aR 66 0]) rfl ?_
      refine x_caught 0 (by decide) ([] : List ExceptionTableEntry) ⟨0, 9, 12, 13⟩ [] rfl hpr_n rfl rfl rfl (fun a9 => ?_)
      refine x_sg k314 1 (pc' := 13) (ls' := [(0, aR 0 0), (1, aI a1), (2, aR 66 0), (3, aX a9)]) (st' := []) (cs' := []) (fun _ => rfl) al0 ?_
      refine x_sg k314 1 (pc' := 14) (ls' := [(0, aR 0 0), (1, aI a1), (2, aR 66 0), (3, aX a9)]) (st' := [aI (nI 1)]) (cs' := []) (fun _ => rfl) al0 ?_
      obtain rfl := Option.some.inj h
      exact x_ireturn k314 ⟨rfl, rfl⟩
    replace h := if_f hx0 h
    cases h
/-- the law's middle -/
def fn_315 (a1 : Int32) (Y : Sm) : Option (Int32 × Sm) :=
  bx (fn_129 a1 Y) (fun x5 Y1 => if x5 = 0 then some ((nI 1), Y1) else none) fun v3 Y1 => wr (sJ Y1 66 0 0 ((v3).toInt64)) fun Y4 => some ((nI 0), Y4)
set_option maxRecDepth 20000 in
set_option maxHeartbeats 4000000 in
theorem sn_315 (a1 : Int32) {Y : Sm} (v : Int32) (Z : Sm) (h : fn_315 a1 Y = some (v, Z)) : Mw 8 1 315 [aR 0 0, aI a1, aR 66 0] Y (Rt (some (aI v)) Z) nX := by
  refine Mw_of [(0, aR 0 0), (1, aI a1), (2, aR 66 0)] ?_
  generalize ho : (v, Z) = o at h
  have hv9 : v = o.1 := congrArg Prod.fst ho
  have hZ9 : Z = o.2 := congrArg Prod.snd ho
  clear ho
  subst hv9 hZ9
  unfold fn_315 at h
  refine x_sg k315 4 (pc' := 4) (ls' := [(0, aR 0 0), (1, aI a1), (2, aR 66 0)]) (st' := [aI a1, aR 0 0, aI (nI 0), aR 66 0]) (cs' := []) (fun _ => rfl) al0 ?_
  obtain ⟨o6, Y1, hv2, ⟨v3, ho7, h⟩ | ⟨x5, ho7, h⟩⟩ := bx_some h
  · subst ho7
    refine x_cV1 k315 (sn_129 _ _ _ hv2) rfl (st := [aI (nI 0), aR 66 0]) rfl ?_
    refine x_sw k315 2 (Z := (sJ Y1 66 0 0 ((v3).toInt64))) (pc' := 9) (ls' := [(0, aR 0 0), (1, aI a1), (2, aR 66 0)]) (st' := []) (cs' := [vp_in (nI 0) 1, allw 66 0]) (fun _ => rfl) rfl (al2 (vin rfl) (al1 rfl)) ?_
    replace h := wr_some h
    generalize (sJ Y1 66 0 0 ((v3).toInt64)) = Y4 at h ⊢
    refine x_sg k315 2 (pc' := 16) (ls' := [(0, aR 0 0), (1, aI a1), (2, aR 66 0)]) (st' := [aI (nI 0)]) (cs' := []) (fun _ => rfl) al0 ?_
    obtain rfl := Option.some.inj h
    exact x_ireturn k315 ⟨rfl, rfl⟩
  · subst ho7
    by_cases hx0 : x5 = 0
    · subst hx0
      replace h := if_t rfl h
      refine x_cVx k315 (sn_129 _ _ _ hv2) rfl (st := [aI (nI 0), aR 66 0]) rfl ?_
      refine x_caught 0 (by decide) ([] : List ExceptionTableEntry) ⟨0, 9, 12, 13⟩ [] rfl hpr_n rfl rfl rfl (fun a9 => ?_)
      refine x_sg k315 1 (pc' := 13) (ls' := [(0, aR 0 0), (1, aI a1), (2, aR 66 0), (3, aX a9)]) (st' := []) (cs' := []) (fun _ => rfl) al0 ?_
      refine x_sg k315 1 (pc' := 14) (ls' := [(0, aR 0 0), (1, aI a1), (2, aR 66 0), (3, aX a9)]) (st' := [aI (nI 1)]) (cs' := []) (fun _ => rfl) al0 ?_
      obtain rfl := Option.some.inj h
      exact x_ireturn k315 ⟨rfl, rfl⟩
    replace h := if_f hx0 h
    cases h
/-- the law's meanWait -/
def fn_316 (a1 : Int32) (Y : Sm) : Option (Int32 × Sm) :=
  bx (fn_130 a1 Y) (fun x5 Y1 => if x5 = 0 then some ((nI 1), Y1) else none) fun v3 Y1 => wr (sD Y1 67 0 0 v3) fun Y4 => some ((nI 0), Y4)
set_option maxRecDepth 20000 in
set_option maxHeartbeats 4000000 in
theorem sn_316 (a1 : Int32) {Y : Sm} (v : Int32) (Z : Sm) (h : fn_316 a1 Y = some (v, Z)) : Mw 8 1 316 [aR 0 0, aI a1, aR 67 0] Y (Rt (some (aI v)) Z) nX := by
  refine Mw_of [(0, aR 0 0), (1, aI a1), (2, aR 67 0)] ?_
  generalize ho : (v, Z) = o at h
  have hv9 : v = o.1 := congrArg Prod.fst ho
  have hZ9 : Z = o.2 := congrArg Prod.snd ho
  clear ho
  subst hv9 hZ9
  unfold fn_316 at h
  refine x_sg k316 4 (pc' := 4) (ls' := [(0, aR 0 0), (1, aI a1), (2, aR 67 0)]) (st' := [aI a1, aR 0 0, aI (nI 0), aR 67 0]) (cs' := []) (fun _ => rfl) al0 ?_
  obtain ⟨o6, Y1, hv2, ⟨v3, ho7, h⟩ | ⟨x5, ho7, h⟩⟩ := bx_some h
  · subst ho7
    refine x_cV1 k316 (sn_130 _ _ _ hv2) rfl (st := [aI (nI 0), aR 67 0]) rfl ?_
    refine x_sw k316 1 (Z := (sD Y1 67 0 0 v3)) (pc' := 8) (ls' := [(0, aR 0 0), (1, aI a1), (2, aR 67 0)]) (st' := []) (cs' := [vp_in (nI 0) 1, allw 67 0]) (fun _ => rfl) rfl (al2 (vin rfl) (al1 rfl)) ?_
    replace h := wr_some h
    generalize (sD Y1 67 0 0 v3) = Y4 at h ⊢
    refine x_sg k316 2 (pc' := 15) (ls' := [(0, aR 0 0), (1, aI a1), (2, aR 67 0)]) (st' := [aI (nI 0)]) (cs' := []) (fun _ => rfl) al0 ?_
    obtain rfl := Option.some.inj h
    exact x_ireturn k316 ⟨rfl, rfl⟩
  · subst ho7
    by_cases hx0 : x5 = 0
    · subst hx0
      replace h := if_t rfl h
      refine x_cVx k316 (sn_130 _ _ _ hv2) rfl (st := [aI (nI 0), aR 67 0]) rfl ?_
      refine x_caught 0 (by decide) ([] : List ExceptionTableEntry) ⟨0, 8, 11, 13⟩ [] rfl hpr_n rfl rfl rfl (fun a9 => ?_)
      refine x_sg k316 1 (pc' := 12) (ls' := [(0, aR 0 0), (1, aI a1), (2, aR 67 0), (3, aX a9)]) (st' := []) (cs' := []) (fun _ => rfl) al0 ?_
      refine x_sg k316 1 (pc' := 13) (ls' := [(0, aR 0 0), (1, aI a1), (2, aR 67 0), (3, aX a9)]) (st' := [aI (nI 1)]) (cs' := []) (fun _ => rfl) al0 ?_
      obtain rfl := Option.some.inj h
      exact x_ireturn k316 ⟨rfl, rfl⟩
    replace h := if_f hx0 h
    cases h
/-- the law's share -/
def fn_317 (a1 : Int32) (Y : Sm) : Option (Int32 × Sm) :=
  bx (fn_131 a1 Y) (fun x6 Y1 => if x6 = 0 then some ((nI 1), Y1) else none) fun v3 Y1 => ck (nn64 (FP.f2d v3)) <| wr (sD Y1 67 0 0 (FP.f2d v3)) fun Y5 => some ((nI 0), Y5)
set_option maxRecDepth 20000 in
set_option maxHeartbeats 4000000 in
theorem sn_317 (a1 : Int32) {Y : Sm} (v : Int32) (Z : Sm) (h : fn_317 a1 Y = some (v, Z)) : Mw 8 1 317 [aR 0 0, aI a1, aR 67 0] Y (Rt (some (aI v)) Z) nX := by
  refine Mw_of [(0, aR 0 0), (1, aI a1), (2, aR 67 0)] ?_
  generalize ho : (v, Z) = o at h
  have hv9 : v = o.1 := congrArg Prod.fst ho
  have hZ9 : Z = o.2 := congrArg Prod.snd ho
  clear ho
  subst hv9 hZ9
  unfold fn_317 at h
  refine x_sg k317 4 (pc' := 4) (ls' := [(0, aR 0 0), (1, aI a1), (2, aR 67 0)]) (st' := [aI a1, aR 0 0, aI (nI 0), aR 67 0]) (cs' := []) (fun _ => rfl) al0 ?_
  obtain ⟨o7, Y1, hv2, ⟨v3, ho8, h⟩ | ⟨x6, ho8, h⟩⟩ := bx_some h
  · subst ho8
    refine x_cV1 k317 (sn_131 _ _ _ hv2) rfl (st := [aI (nI 0), aR 67 0]) rfl ?_
    obtain ⟨hc4, h⟩ := ck_some h
    refine x_sw k317 2 (Z := (sD Y1 67 0 0 (FP.f2d v3))) (pc' := 9) (ls' := [(0, aR 0 0), (1, aI a1), (2, aR 67 0)]) (st' := []) (cs' := [vf_n64 (FP.f2d v3), vp_in (nI 0) 1, allw 67 0]) (fun _ => rfl) rfl (al2 (nn64_of hc4) (al2 (vin rfl) (al1 rfl))) ?_
    replace h := wr_some h
    generalize (sD Y1 67 0 0 (FP.f2d v3)) = Y5 at h ⊢
    refine x_sg k317 2 (pc' := 16) (ls' := [(0, aR 0 0), (1, aI a1), (2, aR 67 0)]) (st' := [aI (nI 0)]) (cs' := []) (fun _ => rfl) al0 ?_
    obtain rfl := Option.some.inj h
    exact x_ireturn k317 ⟨rfl, rfl⟩
  · subst ho8
    by_cases hx0 : x6 = 0
    · subst hx0
      replace h := if_t rfl h
      refine x_cVx k317 (sn_131 _ _ _ hv2) rfl (st := [aI (nI 0), aR 67 0]) rfl ?_
      refine x_caught 0 (by decide) ([] : List ExceptionTableEntry) ⟨0, 9, 12, 13⟩ [] rfl hpr_n rfl rfl rfl (fun a9 => ?_)
      refine x_sg k317 1 (pc' := 13) (ls' := [(0, aR 0 0), (1, aI a1), (2, aR 67 0), (3, aX a9)]) (st' := []) (cs' := []) (fun _ => rfl) al0 ?_
      refine x_sg k317 1 (pc' := 14) (ls' := [(0, aR 0 0), (1, aI a1), (2, aR 67 0), (3, aX a9)]) (st' := [aI (nI 1)]) (cs' := []) (fun _ => rfl) al0 ?_
      obtain rfl := Option.some.inj h
      exact x_ireturn k317 ⟨rfl, rfl⟩
    replace h := if_f hx0 h
    cases h
/-- the law's run -/
def fn_318 (a1 : Int32) (Y : Sm) : Option (Int32 × Sm) :=
  bx (fn_134 a1 Y) (fun x5 Y1 => if x5 = 1 then some ((nI 1), Y1) else none) fun v3 Y1 => wr (sJ Y1 66 0 0 ((v3).toInt64)) fun Y4 => some ((nI 0), Y4)
set_option maxRecDepth 20000 in
set_option maxHeartbeats 4000000 in
theorem sn_318 (a1 : Int32) {Y : Sm} (v : Int32) (Z : Sm) (h : fn_318 a1 Y = some (v, Z)) : Mw 11 1 318 [aR 0 0, aI a1, aR 66 0] Y (Rt (some (aI v)) Z) nX := by
  refine Mw_of [(0, aR 0 0), (1, aI a1), (2, aR 66 0)] ?_
  generalize ho : (v, Z) = o at h
  have hv9 : v = o.1 := congrArg Prod.fst ho
  have hZ9 : Z = o.2 := congrArg Prod.snd ho
  clear ho
  subst hv9 hZ9
  unfold fn_318 at h
  refine x_sg k318 4 (pc' := 4) (ls' := [(0, aR 0 0), (1, aI a1), (2, aR 66 0)]) (st' := [aI a1, aR 0 0, aI (nI 0), aR 66 0]) (cs' := []) (fun _ => rfl) al0 ?_
  obtain ⟨o6, Y1, hv2, ⟨v3, ho7, h⟩ | ⟨x5, ho7, h⟩⟩ := bx_some h
  · subst ho7
    refine x_cV1 k318 (sn_134 _ _ _ hv2) rfl (st := [aI (nI 0), aR 66 0]) rfl ?_
    refine x_sw k318 2 (Z := (sJ Y1 66 0 0 ((v3).toInt64))) (pc' := 9) (ls' := [(0, aR 0 0), (1, aI a1), (2, aR 66 0)]) (st' := []) (cs' := [vp_in (nI 0) 1, allw 66 0]) (fun _ => rfl) rfl (al2 (vin rfl) (al1 rfl)) ?_
    replace h := wr_some h
    generalize (sJ Y1 66 0 0 ((v3).toInt64)) = Y4 at h ⊢
    refine x_sg k318 2 (pc' := 16) (ls' := [(0, aR 0 0), (1, aI a1), (2, aR 66 0)]) (st' := [aI (nI 0)]) (cs' := []) (fun _ => rfl) al0 ?_
    obtain rfl := Option.some.inj h
    exact x_ireturn k318 ⟨rfl, rfl⟩
  · subst ho7
    by_cases hx0 : x5 = 1
    · subst hx0
      replace h := if_t rfl h
      refine x_cVx k318 (sn_134 _ _ _ hv2) rfl (st := [aI (nI 0), aR 66 0]) rfl ?_
      refine x_caught 1 (by decide) ([] : List ExceptionTableEntry) ⟨0, 9, 12, 28⟩ [] rfl hpr_n rfl rfl rfl (fun a9 => ?_)
      refine x_sg k318 1 (pc' := 13) (ls' := [(0, aR 0 0), (1, aI a1), (2, aR 66 0), (3, aX a9)]) (st' := []) (cs' := []) (fun _ => rfl) al0 ?_
      refine x_sg k318 1 (pc' := 14) (ls' := [(0, aR 0 0), (1, aI a1), (2, aR 66 0), (3, aX a9)]) (st' := [aI (nI 1)]) (cs' := []) (fun _ => rfl) al0 ?_
      obtain rfl := Option.some.inj h
      exact x_ireturn k318 ⟨rfl, rfl⟩
    replace h := if_f hx0 h
    cases h
/-- the law's ask -/
def fn_319 (a1 : Int32) (a2 : Int32) (a3 : Int32) (Y : Sm) : Option (Int32 × Sm) :=
  bx (fn_135 a1 a2 a3 Y) (fun x5 Y1 => if x5 = 0 then some ((nI 1), Y1) else if x5 = 1 then some ((nI 2), Y1) else if x5 = 2 then some ((nI 3), Y1) else none) fun v3 Y1 => wr (sJ Y1 66 0 0 ((v3).toInt64)) fun Y4 => some ((nI 0), Y4)
set_option maxRecDepth 20000 in
set_option maxHeartbeats 4000000 in
theorem sn_319 (a1 : Int32) (a2 : Int32) (a3 : Int32) {Y : Sm} (v : Int32) (Z : Sm) (h : fn_319 a1 a2 a3 Y = some (v, Z)) : Mw 8 3 319 [aR 0 0, aI a1, aI a2, aI a3, aR 66 0] Y (Rt (some (aI v)) Z) nX := by
  refine Mw_of [(0, aR 0 0), (1, aI a1), (2, aI a2), (3, aI a3), (4, aR 66 0)] ?_
  generalize ho : (v, Z) = o at h
  have hv9 : v = o.1 := congrArg Prod.fst ho
  have hZ9 : Z = o.2 := congrArg Prod.snd ho
  clear ho
  subst hv9 hZ9
  unfold fn_319 at h
  refine x_sg k319 6 (pc' := 7) (ls' := [(0, aR 0 0), (1, aI a1), (2, aI a2), (3, aI a3), (4, aR 66 0)]) (st' := [aI a3, aI a2, aI a1, aR 0 0, aI (nI 0), aR 66 0]) (cs' := []) (fun _ => rfl) al0 ?_
  obtain ⟨o6, Y1, hv2, ⟨v3, ho7, h⟩ | ⟨x5, ho7, h⟩⟩ := bx_some h
  · subst ho7
    refine x_cV1 k319 (sn_135 _ _ _ _ _ hv2) rfl (st := [aI (nI 0), aR 66 0]) rfl ?_
    refine x_sw k319 2 (Z := (sJ Y1 66 0 0 ((v3).toInt64))) (pc' := 12) (ls' := [(0, aR 0 0), (1, aI a1), (2, aI a2), (3, aI a3), (4, aR 66 0)]) (st' := []) (cs' := [vp_in (nI 0) 1, allw 66 0]) (fun _ => rfl) rfl (al2 (vin rfl) (al1 rfl)) ?_
    replace h := wr_some h
    generalize (sJ Y1 66 0 0 ((v3).toInt64)) = Y4 at h ⊢
    refine x_sg k319 2 (pc' := 28) (ls' := [(0, aR 0 0), (1, aI a1), (2, aI a2), (3, aI a3), (4, aR 66 0)]) (st' := [aI (nI 0)]) (cs' := []) (fun _ => rfl) al0 ?_
    obtain rfl := Option.some.inj h
    exact x_ireturn k319 ⟨rfl, rfl⟩
  · subst ho7
    by_cases hx0 : x5 = 0
    · subst hx0
      replace h := if_t rfl h
      refine x_cVx k319 (sn_135 _ _ _ _ _ hv2) rfl (st := [aI (nI 0), aR 66 0]) rfl ?_
      refine x_caught 0 (by decide) ([] : List ExceptionTableEntry) ⟨0, 12, 15, 13⟩ [⟨0, 12, 19, 28⟩, ⟨0, 12, 23, 82⟩] rfl hpr_n rfl rfl rfl (fun a9 => ?_)
      refine x_sg k319 1 (pc' := 17) (ls' := [(0, aR 0 0), (1, aI a1), (2, aI a2), (3, aI a3), (4, aR 66 0), (5, aX a9)]) (st' := []) (cs' := []) (fun _ => rfl) al0 ?_
      refine x_sg k319 1 (pc' := 18) (ls' := [(0, aR 0 0), (1, aI a1), (2, aI a2), (3, aI a3), (4, aR 66 0), (5, aX a9)]) (st' := [aI (nI 1)]) (cs' := []) (fun _ => rfl) al0 ?_
      obtain rfl := Option.some.inj h
      exact x_ireturn k319 ⟨rfl, rfl⟩
    replace h := if_f hx0 h
    by_cases hx1 : x5 = 1
    · subst hx1
      replace h := if_t rfl h
      refine x_cVx k319 (sn_135 _ _ _ _ _ hv2) rfl (st := [aI (nI 0), aR 66 0]) rfl ?_
      refine x_caught 1 (by decide) ([⟨0, 12, 15, 13⟩] : List ExceptionTableEntry) ⟨0, 12, 19, 28⟩ [⟨0, 12, 23, 82⟩] rfl (hpr_c (x' := 0) (by decide) (by decide) rfl hpr_n) rfl rfl rfl (fun a9 => ?_)
      refine x_sg k319 1 (pc' := 21) (ls' := [(0, aR 0 0), (1, aI a1), (2, aI a2), (3, aI a3), (4, aR 66 0), (5, aX a9)]) (st' := []) (cs' := []) (fun _ => rfl) al0 ?_
      refine x_sg k319 1 (pc' := 22) (ls' := [(0, aR 0 0), (1, aI a1), (2, aI a2), (3, aI a3), (4, aR 66 0), (5, aX a9)]) (st' := [aI (nI 2)]) (cs' := []) (fun _ => rfl) al0 ?_
      obtain rfl := Option.some.inj h
      exact x_ireturn k319 ⟨rfl, rfl⟩
    replace h := if_f hx1 h
    by_cases hx2 : x5 = 2
    · subst hx2
      replace h := if_t rfl h
      refine x_cVx k319 (sn_135 _ _ _ _ _ hv2) rfl (st := [aI (nI 0), aR 66 0]) rfl ?_
      refine x_caught 2 (by decide) ([⟨0, 12, 15, 13⟩, ⟨0, 12, 19, 28⟩] : List ExceptionTableEntry) ⟨0, 12, 23, 82⟩ [] rfl (hpr_c (x' := 0) (by decide) (by decide) rfl (hpr_c (x' := 1) (by decide) (by decide) rfl hpr_n)) rfl rfl rfl (fun a9 => ?_)
      refine x_sg k319 1 (pc' := 25) (ls' := [(0, aR 0 0), (1, aI a1), (2, aI a2), (3, aI a3), (4, aR 66 0), (5, aX a9)]) (st' := []) (cs' := []) (fun _ => rfl) al0 ?_
      refine x_sg k319 1 (pc' := 26) (ls' := [(0, aR 0 0), (1, aI a1), (2, aI a2), (3, aI a3), (4, aR 66 0), (5, aX a9)]) (st' := [aI (nI 3)]) (cs' := []) (fun _ => rfl) al0 ?_
      obtain rfl := Option.some.inj h
      exact x_ireturn k319 ⟨rfl, rfl⟩
    replace h := if_f hx2 h
    cases h
/-- the law's cancel -/
def fn_320 (a1 : Int32) (Y : Sm) : Option (Int32 × Sm) :=
  bx (fn_136 a1 Y) (fun x5 Y1 => if x5 = 2 then some ((nI 1), Y1) else if x5 = 3 then some ((nI 2), Y1) else none) fun v3 Y1 => wr (sJ Y1 66 0 0 ((v3).toInt64)) fun Y4 => some ((nI 0), Y4)
set_option maxRecDepth 20000 in
set_option maxHeartbeats 4000000 in
theorem sn_320 (a1 : Int32) {Y : Sm} (v : Int32) (Z : Sm) (h : fn_320 a1 Y = some (v, Z)) : Mw 8 2 320 [aR 0 0, aI a1, aR 66 0] Y (Rt (some (aI v)) Z) nX := by
  refine Mw_of [(0, aR 0 0), (1, aI a1), (2, aR 66 0)] ?_
  generalize ho : (v, Z) = o at h
  have hv9 : v = o.1 := congrArg Prod.fst ho
  have hZ9 : Z = o.2 := congrArg Prod.snd ho
  clear ho
  subst hv9 hZ9
  unfold fn_320 at h
  refine x_sg k320 4 (pc' := 4) (ls' := [(0, aR 0 0), (1, aI a1), (2, aR 66 0)]) (st' := [aI a1, aR 0 0, aI (nI 0), aR 66 0]) (cs' := []) (fun _ => rfl) al0 ?_
  obtain ⟨o6, Y1, hv2, ⟨v3, ho7, h⟩ | ⟨x5, ho7, h⟩⟩ := bx_some h
  · subst ho7
    refine x_cV1 k320 (sn_136 _ _ _ hv2) rfl (st := [aI (nI 0), aR 66 0]) rfl ?_
    refine x_sw k320 2 (Z := (sJ Y1 66 0 0 ((v3).toInt64))) (pc' := 9) (ls' := [(0, aR 0 0), (1, aI a1), (2, aR 66 0)]) (st' := []) (cs' := [vp_in (nI 0) 1, allw 66 0]) (fun _ => rfl) rfl (al2 (vin rfl) (al1 rfl)) ?_
    replace h := wr_some h
    generalize (sJ Y1 66 0 0 ((v3).toInt64)) = Y4 at h ⊢
    refine x_sg k320 2 (pc' := 19) (ls' := [(0, aR 0 0), (1, aI a1), (2, aR 66 0)]) (st' := [aI (nI 0)]) (cs' := []) (fun _ => rfl) al0 ?_
    obtain rfl := Option.some.inj h
    exact x_ireturn k320 ⟨rfl, rfl⟩
  · subst ho7
    by_cases hx0 : x5 = 2
    · subst hx0
      replace h := if_t rfl h
      refine x_cVx k320 (sn_136 _ _ _ hv2) rfl (st := [aI (nI 0), aR 66 0]) rfl ?_
      refine x_caught 2 (by decide) ([] : List ExceptionTableEntry) ⟨0, 9, 12, 82⟩ [⟨0, 9, 15, 30⟩] rfl hpr_n rfl rfl rfl (fun a9 => ?_)
      refine x_sg k320 1 (pc' := 13) (ls' := [(0, aR 0 0), (1, aI a1), (2, aR 66 0), (3, aX a9)]) (st' := []) (cs' := []) (fun _ => rfl) al0 ?_
      refine x_sg k320 1 (pc' := 14) (ls' := [(0, aR 0 0), (1, aI a1), (2, aR 66 0), (3, aX a9)]) (st' := [aI (nI 1)]) (cs' := []) (fun _ => rfl) al0 ?_
      obtain rfl := Option.some.inj h
      exact x_ireturn k320 ⟨rfl, rfl⟩
    replace h := if_f hx0 h
    by_cases hx1 : x5 = 3
    · subst hx1
      replace h := if_t rfl h
      refine x_cVx k320 (sn_136 _ _ _ hv2) rfl (st := [aI (nI 0), aR 66 0]) rfl ?_
      refine x_caught 3 (by decide) ([⟨0, 9, 12, 82⟩] : List ExceptionTableEntry) ⟨0, 9, 15, 30⟩ [] rfl (hpr_c (x' := 2) (by decide) (by decide) rfl hpr_n) rfl rfl rfl (fun a9 => ?_)
      refine x_sg k320 1 (pc' := 16) (ls' := [(0, aR 0 0), (1, aI a1), (2, aR 66 0), (3, aX a9)]) (st' := []) (cs' := []) (fun _ => rfl) al0 ?_
      refine x_sg k320 1 (pc' := 17) (ls' := [(0, aR 0 0), (1, aI a1), (2, aR 66 0), (3, aX a9)]) (st' := [aI (nI 2)]) (cs' := []) (fun _ => rfl) al0 ?_
      obtain rfl := Option.some.inj h
      exact x_ireturn k320 ⟨rfl, rfl⟩
    replace h := if_f hx1 h
    cases h
/-- the law's cast -/
def fn_321 (a1 : Int32) (Y : Sm) : Option (Int32 × Sm) :=
  bx (fn_137 a1 Y) (fun x5 Y1 => if x5 = 1 then some ((nI 1), Y1) else none) fun v3 Y1 => wr (sJ Y1 66 0 0 ((v3).toInt64)) fun Y4 => some ((nI 0), Y4)
set_option maxRecDepth 20000 in
set_option maxHeartbeats 4000000 in
theorem sn_321 (a1 : Int32) {Y : Sm} (v : Int32) (Z : Sm) (h : fn_321 a1 Y = some (v, Z)) : Mw 8 1 321 [aR 0 0, aI a1, aR 66 0] Y (Rt (some (aI v)) Z) nX := by
  refine Mw_of [(0, aR 0 0), (1, aI a1), (2, aR 66 0)] ?_
  generalize ho : (v, Z) = o at h
  have hv9 : v = o.1 := congrArg Prod.fst ho
  have hZ9 : Z = o.2 := congrArg Prod.snd ho
  clear ho
  subst hv9 hZ9
  unfold fn_321 at h
  refine x_sg k321 4 (pc' := 4) (ls' := [(0, aR 0 0), (1, aI a1), (2, aR 66 0)]) (st' := [aI a1, aR 0 0, aI (nI 0), aR 66 0]) (cs' := []) (fun _ => rfl) al0 ?_
  obtain ⟨o6, Y1, hv2, ⟨v3, ho7, h⟩ | ⟨x5, ho7, h⟩⟩ := bx_some h
  · subst ho7
    refine x_cV1 k321 (sn_137 _ _ _ hv2) rfl (st := [aI (nI 0), aR 66 0]) rfl ?_
    refine x_sw k321 2 (Z := (sJ Y1 66 0 0 ((v3).toInt64))) (pc' := 9) (ls' := [(0, aR 0 0), (1, aI a1), (2, aR 66 0)]) (st' := []) (cs' := [vp_in (nI 0) 1, allw 66 0]) (fun _ => rfl) rfl (al2 (vin rfl) (al1 rfl)) ?_
    replace h := wr_some h
    generalize (sJ Y1 66 0 0 ((v3).toInt64)) = Y4 at h ⊢
    refine x_sg k321 2 (pc' := 16) (ls' := [(0, aR 0 0), (1, aI a1), (2, aR 66 0)]) (st' := [aI (nI 0)]) (cs' := []) (fun _ => rfl) al0 ?_
    obtain rfl := Option.some.inj h
    exact x_ireturn k321 ⟨rfl, rfl⟩
  · subst ho7
    by_cases hx0 : x5 = 1
    · subst hx0
      replace h := if_t rfl h
      refine x_cVx k321 (sn_137 _ _ _ hv2) rfl (st := [aI (nI 0), aR 66 0]) rfl ?_
      refine x_caught 1 (by decide) ([] : List ExceptionTableEntry) ⟨0, 9, 12, 28⟩ [] rfl hpr_n rfl rfl rfl (fun a9 => ?_)
      refine x_sg k321 1 (pc' := 13) (ls' := [(0, aR 0 0), (1, aI a1), (2, aR 66 0), (3, aX a9)]) (st' := []) (cs' := []) (fun _ => rfl) al0 ?_
      refine x_sg k321 1 (pc' := 14) (ls' := [(0, aR 0 0), (1, aI a1), (2, aR 66 0), (3, aX a9)]) (st' := [aI (nI 1)]) (cs' := []) (fun _ => rfl) al0 ?_
      obtain rfl := Option.some.inj h
      exact x_ireturn k321 ⟨rfl, rfl⟩
    replace h := if_f hx0 h
    cases h
/-- the law's veto -/
def fn_322 (a1 : Int32) (a2 : Int32) (Y : Sm) : Option (Int32 × Sm) :=
  bx (fn_138 a1 a2 Y) (fun x5 Y1 => if x5 = 0 then some ((nI 1), Y1) else if x5 = 2 then some ((nI 2), Y1) else none) fun v3 Y1 => wr (sJ Y1 66 0 0 ((v3).toInt64)) fun Y4 => some ((nI 0), Y4)
set_option maxRecDepth 20000 in
set_option maxHeartbeats 4000000 in
theorem sn_322 (a1 : Int32) (a2 : Int32) {Y : Sm} (v : Int32) (Z : Sm) (h : fn_322 a1 a2 Y = some (v, Z)) : Mw 8 3 322 [aR 0 0, aI a1, aI a2, aR 66 0] Y (Rt (some (aI v)) Z) nX := by
  refine Mw_of [(0, aR 0 0), (1, aI a1), (2, aI a2), (3, aR 66 0)] ?_
  generalize ho : (v, Z) = o at h
  have hv9 : v = o.1 := congrArg Prod.fst ho
  have hZ9 : Z = o.2 := congrArg Prod.snd ho
  clear ho
  subst hv9 hZ9
  unfold fn_322 at h
  refine x_sg k322 5 (pc' := 5) (ls' := [(0, aR 0 0), (1, aI a1), (2, aI a2), (3, aR 66 0)]) (st' := [aI a2, aI a1, aR 0 0, aI (nI 0), aR 66 0]) (cs' := []) (fun _ => rfl) al0 ?_
  obtain ⟨o6, Y1, hv2, ⟨v3, ho7, h⟩ | ⟨x5, ho7, h⟩⟩ := bx_some h
  · subst ho7
    refine x_cV1 k322 (sn_138 _ _ _ _ hv2) rfl (st := [aI (nI 0), aR 66 0]) rfl ?_
    refine x_sw k322 2 (Z := (sJ Y1 66 0 0 ((v3).toInt64))) (pc' := 10) (ls' := [(0, aR 0 0), (1, aI a1), (2, aI a2), (3, aR 66 0)]) (st' := []) (cs' := [vp_in (nI 0) 1, allw 66 0]) (fun _ => rfl) rfl (al2 (vin rfl) (al1 rfl)) ?_
    replace h := wr_some h
    generalize (sJ Y1 66 0 0 ((v3).toInt64)) = Y4 at h ⊢
    refine x_sg k322 2 (pc' := 22) (ls' := [(0, aR 0 0), (1, aI a1), (2, aI a2), (3, aR 66 0)]) (st' := [aI (nI 0)]) (cs' := []) (fun _ => rfl) al0 ?_
    obtain rfl := Option.some.inj h
    exact x_ireturn k322 ⟨rfl, rfl⟩
  · subst ho7
    by_cases hx0 : x5 = 0
    · subst hx0
      replace h := if_t rfl h
      refine x_cVx k322 (sn_138 _ _ _ _ hv2) rfl (st := [aI (nI 0), aR 66 0]) rfl ?_
      refine x_caught 0 (by decide) ([] : List ExceptionTableEntry) ⟨0, 10, 13, 13⟩ [⟨0, 10, 17, 82⟩] rfl hpr_n rfl rfl rfl (fun a9 => ?_)
      refine x_sg k322 1 (pc' := 15) (ls' := [(0, aR 0 0), (1, aI a1), (2, aI a2), (3, aR 66 0), (4, aX a9)]) (st' := []) (cs' := []) (fun _ => rfl) al0 ?_
      refine x_sg k322 1 (pc' := 16) (ls' := [(0, aR 0 0), (1, aI a1), (2, aI a2), (3, aR 66 0), (4, aX a9)]) (st' := [aI (nI 1)]) (cs' := []) (fun _ => rfl) al0 ?_
      obtain rfl := Option.some.inj h
      exact x_ireturn k322 ⟨rfl, rfl⟩
    replace h := if_f hx0 h
    by_cases hx1 : x5 = 2
    · subst hx1
      replace h := if_t rfl h
      refine x_cVx k322 (sn_138 _ _ _ _ hv2) rfl (st := [aI (nI 0), aR 66 0]) rfl ?_
      refine x_caught 2 (by decide) ([⟨0, 10, 13, 13⟩] : List ExceptionTableEntry) ⟨0, 10, 17, 82⟩ [] rfl (hpr_c (x' := 0) (by decide) (by decide) rfl hpr_n) rfl rfl rfl (fun a9 => ?_)
      refine x_sg k322 1 (pc' := 19) (ls' := [(0, aR 0 0), (1, aI a1), (2, aI a2), (3, aR 66 0), (4, aX a9)]) (st' := []) (cs' := []) (fun _ => rfl) al0 ?_
      refine x_sg k322 1 (pc' := 20) (ls' := [(0, aR 0 0), (1, aI a1), (2, aI a2), (3, aR 66 0), (4, aX a9)]) (st' := [aI (nI 2)]) (cs' := []) (fun _ => rfl) al0 ?_
      obtain rfl := Option.some.inj h
      exact x_ireturn k322 ⟨rfl, rfl⟩
    replace h := if_f hx1 h
    cases h
/-- the law's payBack -/
def fn_323 (a1 : Int32) (Y : Sm) : Option (Int32 × Sm) :=
  bx (fn_139 a1 Y) (fun x5 Y1 => if x5 = 0 then some ((nI 1), Y1) else none) fun v3 Y1 => wr (sJ Y1 66 0 0 ((v3).toInt64)) fun Y4 => some ((nI 0), Y4)
set_option maxRecDepth 20000 in
set_option maxHeartbeats 4000000 in
theorem sn_323 (a1 : Int32) {Y : Sm} (v : Int32) (Z : Sm) (h : fn_323 a1 Y = some (v, Z)) : Mw 8 1 323 [aR 0 0, aI a1, aR 66 0] Y (Rt (some (aI v)) Z) nX := by
  refine Mw_of [(0, aR 0 0), (1, aI a1), (2, aR 66 0)] ?_
  generalize ho : (v, Z) = o at h
  have hv9 : v = o.1 := congrArg Prod.fst ho
  have hZ9 : Z = o.2 := congrArg Prod.snd ho
  clear ho
  subst hv9 hZ9
  unfold fn_323 at h
  refine x_sg k323 4 (pc' := 4) (ls' := [(0, aR 0 0), (1, aI a1), (2, aR 66 0)]) (st' := [aI a1, aR 0 0, aI (nI 0), aR 66 0]) (cs' := []) (fun _ => rfl) al0 ?_
  obtain ⟨o6, Y1, hv2, ⟨v3, ho7, h⟩ | ⟨x5, ho7, h⟩⟩ := bx_some h
  · subst ho7
    refine x_cV1 k323 (sn_139 _ _ _ hv2) rfl (st := [aI (nI 0), aR 66 0]) rfl ?_
    refine x_sw k323 2 (Z := (sJ Y1 66 0 0 ((v3).toInt64))) (pc' := 9) (ls' := [(0, aR 0 0), (1, aI a1), (2, aR 66 0)]) (st' := []) (cs' := [vp_in (nI 0) 1, allw 66 0]) (fun _ => rfl) rfl (al2 (vin rfl) (al1 rfl)) ?_
    replace h := wr_some h
    generalize (sJ Y1 66 0 0 ((v3).toInt64)) = Y4 at h ⊢
    refine x_sg k323 2 (pc' := 16) (ls' := [(0, aR 0 0), (1, aI a1), (2, aR 66 0)]) (st' := [aI (nI 0)]) (cs' := []) (fun _ => rfl) al0 ?_
    obtain rfl := Option.some.inj h
    exact x_ireturn k323 ⟨rfl, rfl⟩
  · subst ho7
    by_cases hx0 : x5 = 0
    · subst hx0
      replace h := if_t rfl h
      refine x_cVx k323 (sn_139 _ _ _ hv2) rfl (st := [aI (nI 0), aR 66 0]) rfl ?_
      refine x_caught 0 (by decide) ([] : List ExceptionTableEntry) ⟨0, 9, 12, 13⟩ [] rfl hpr_n rfl rfl rfl (fun a9 => ?_)
      refine x_sg k323 1 (pc' := 13) (ls' := [(0, aR 0 0), (1, aI a1), (2, aR 66 0), (3, aX a9)]) (st' := []) (cs' := []) (fun _ => rfl) al0 ?_
      refine x_sg k323 1 (pc' := 14) (ls' := [(0, aR 0 0), (1, aI a1), (2, aR 66 0), (3, aX a9)]) (st' := [aI (nI 1)]) (cs' := []) (fun _ => rfl) al0 ?_
      obtain rfl := Option.some.inj h
      exact x_ireturn k323 ⟨rfl, rfl⟩
    replace h := if_f hx0 h
    cases h
/-- the law's setTally -/
def fn_324 (a1 : Int32) (Y : Sm) : Option (Int32 × Sm) :=
  bx (fn_140 a1 Y) (fun x5 Y1 => if x5 = 1 then some ((nI 1), Y1) else none) fun v3 Y1 => wr (sJ Y1 66 0 0 ((v3).toInt64)) fun Y4 => some ((nI 0), Y4)
set_option maxRecDepth 20000 in
set_option maxHeartbeats 4000000 in
theorem sn_324 (a1 : Int32) {Y : Sm} (v : Int32) (Z : Sm) (h : fn_324 a1 Y = some (v, Z)) : Mw 8 1 324 [aR 0 0, aI a1, aR 66 0] Y (Rt (some (aI v)) Z) nX := by
  refine Mw_of [(0, aR 0 0), (1, aI a1), (2, aR 66 0)] ?_
  generalize ho : (v, Z) = o at h
  have hv9 : v = o.1 := congrArg Prod.fst ho
  have hZ9 : Z = o.2 := congrArg Prod.snd ho
  clear ho
  subst hv9 hZ9
  unfold fn_324 at h
  refine x_sg k324 4 (pc' := 4) (ls' := [(0, aR 0 0), (1, aI a1), (2, aR 66 0)]) (st' := [aI a1, aR 0 0, aI (nI 0), aR 66 0]) (cs' := []) (fun _ => rfl) al0 ?_
  obtain ⟨o6, Y1, hv2, ⟨v3, ho7, h⟩ | ⟨x5, ho7, h⟩⟩ := bx_some h
  · subst ho7
    refine x_cV1 k324 (sn_140 _ _ _ hv2) rfl (st := [aI (nI 0), aR 66 0]) rfl ?_
    refine x_sw k324 2 (Z := (sJ Y1 66 0 0 ((v3).toInt64))) (pc' := 9) (ls' := [(0, aR 0 0), (1, aI a1), (2, aR 66 0)]) (st' := []) (cs' := [vp_in (nI 0) 1, allw 66 0]) (fun _ => rfl) rfl (al2 (vin rfl) (al1 rfl)) ?_
    replace h := wr_some h
    generalize (sJ Y1 66 0 0 ((v3).toInt64)) = Y4 at h ⊢
    refine x_sg k324 2 (pc' := 16) (ls' := [(0, aR 0 0), (1, aI a1), (2, aR 66 0)]) (st' := [aI (nI 0)]) (cs' := []) (fun _ => rfl) al0 ?_
    obtain rfl := Option.some.inj h
    exact x_ireturn k324 ⟨rfl, rfl⟩
  · subst ho7
    by_cases hx0 : x5 = 1
    · subst hx0
      replace h := if_t rfl h
      refine x_cVx k324 (sn_140 _ _ _ hv2) rfl (st := [aI (nI 0), aR 66 0]) rfl ?_
      refine x_caught 1 (by decide) ([] : List ExceptionTableEntry) ⟨0, 9, 12, 28⟩ [] rfl hpr_n rfl rfl rfl (fun a9 => ?_)
      refine x_sg k324 1 (pc' := 13) (ls' := [(0, aR 0 0), (1, aI a1), (2, aR 66 0), (3, aX a9)]) (st' := []) (cs' := []) (fun _ => rfl) al0 ?_
      refine x_sg k324 1 (pc' := 14) (ls' := [(0, aR 0 0), (1, aI a1), (2, aR 66 0), (3, aX a9)]) (st' := [aI (nI 1)]) (cs' := []) (fun _ => rfl) al0 ?_
      obtain rfl := Option.some.inj h
      exact x_ireturn k324 ⟨rfl, rfl⟩
    replace h := if_f hx0 h
    cases h
/-- the law's setManner -/
def fn_325 (a1 : Int32) (a2 : Int32) (Y : Sm) : Option (Int32 × Sm) :=
  bx (fn_141 a1 a2 Y) (fun x5 Y1 => if x5 = 0 then some ((nI 1), Y1) else if x5 = 1 then some ((nI 2), Y1) else none) fun v3 Y1 => wr (sJ Y1 66 0 0 ((v3).toInt64)) fun Y4 => some ((nI 0), Y4)
set_option maxRecDepth 20000 in
set_option maxHeartbeats 4000000 in
theorem sn_325 (a1 : Int32) (a2 : Int32) {Y : Sm} (v : Int32) (Z : Sm) (h : fn_325 a1 a2 Y = some (v, Z)) : Mw 8 2 325 [aR 0 0, aI a1, aI a2, aR 66 0] Y (Rt (some (aI v)) Z) nX := by
  refine Mw_of [(0, aR 0 0), (1, aI a1), (2, aI a2), (3, aR 66 0)] ?_
  generalize ho : (v, Z) = o at h
  have hv9 : v = o.1 := congrArg Prod.fst ho
  have hZ9 : Z = o.2 := congrArg Prod.snd ho
  clear ho
  subst hv9 hZ9
  unfold fn_325 at h
  refine x_sg k325 5 (pc' := 5) (ls' := [(0, aR 0 0), (1, aI a1), (2, aI a2), (3, aR 66 0)]) (st' := [aI a2, aI a1, aR 0 0, aI (nI 0), aR 66 0]) (cs' := []) (fun _ => rfl) al0 ?_
  obtain ⟨o6, Y1, hv2, ⟨v3, ho7, h⟩ | ⟨x5, ho7, h⟩⟩ := bx_some h
  · subst ho7
    refine x_cV1 k325 (sn_141 _ _ _ _ hv2) rfl (st := [aI (nI 0), aR 66 0]) rfl ?_
    refine x_sw k325 2 (Z := (sJ Y1 66 0 0 ((v3).toInt64))) (pc' := 10) (ls' := [(0, aR 0 0), (1, aI a1), (2, aI a2), (3, aR 66 0)]) (st' := []) (cs' := [vp_in (nI 0) 1, allw 66 0]) (fun _ => rfl) rfl (al2 (vin rfl) (al1 rfl)) ?_
    replace h := wr_some h
    generalize (sJ Y1 66 0 0 ((v3).toInt64)) = Y4 at h ⊢
    refine x_sg k325 2 (pc' := 22) (ls' := [(0, aR 0 0), (1, aI a1), (2, aI a2), (3, aR 66 0)]) (st' := [aI (nI 0)]) (cs' := []) (fun _ => rfl) al0 ?_
    obtain rfl := Option.some.inj h
    exact x_ireturn k325 ⟨rfl, rfl⟩
  · subst ho7
    by_cases hx0 : x5 = 0
    · subst hx0
      replace h := if_t rfl h
      refine x_cVx k325 (sn_141 _ _ _ _ hv2) rfl (st := [aI (nI 0), aR 66 0]) rfl ?_
      refine x_caught 0 (by decide) ([] : List ExceptionTableEntry) ⟨0, 10, 13, 13⟩ [⟨0, 10, 17, 28⟩] rfl hpr_n rfl rfl rfl (fun a9 => ?_)
      refine x_sg k325 1 (pc' := 15) (ls' := [(0, aR 0 0), (1, aI a1), (2, aI a2), (3, aR 66 0), (4, aX a9)]) (st' := []) (cs' := []) (fun _ => rfl) al0 ?_
      refine x_sg k325 1 (pc' := 16) (ls' := [(0, aR 0 0), (1, aI a1), (2, aI a2), (3, aR 66 0), (4, aX a9)]) (st' := [aI (nI 1)]) (cs' := []) (fun _ => rfl) al0 ?_
      obtain rfl := Option.some.inj h
      exact x_ireturn k325 ⟨rfl, rfl⟩
    replace h := if_f hx0 h
    by_cases hx1 : x5 = 1
    · subst hx1
      replace h := if_t rfl h
      refine x_cVx k325 (sn_141 _ _ _ _ hv2) rfl (st := [aI (nI 0), aR 66 0]) rfl ?_
      refine x_caught 1 (by decide) ([⟨0, 10, 13, 13⟩] : List ExceptionTableEntry) ⟨0, 10, 17, 28⟩ [] rfl (hpr_c (x' := 0) (by decide) (by decide) rfl hpr_n) rfl rfl rfl (fun a9 => ?_)
      refine x_sg k325 1 (pc' := 19) (ls' := [(0, aR 0 0), (1, aI a1), (2, aI a2), (3, aR 66 0), (4, aX a9)]) (st' := []) (cs' := []) (fun _ => rfl) al0 ?_
      refine x_sg k325 1 (pc' := 20) (ls' := [(0, aR 0 0), (1, aI a1), (2, aI a2), (3, aR 66 0), (4, aX a9)]) (st' := [aI (nI 2)]) (cs' := []) (fun _ => rfl) al0 ?_
      obtain rfl := Option.some.inj h
      exact x_ireturn k325 ⟨rfl, rfl⟩
    replace h := if_f hx1 h
    cases h
/-- the law's undo -/
def fn_326 (Y : Sm) : Option (Int32 × Sm) :=
  bx (fn_142 Y) (fun x5 Y1 => if x5 = 2 then some ((nI 1), Y1) else none) fun v3 Y1 => wr (sJ Y1 66 0 0 ((v3).toInt64)) fun Y4 => some ((nI 0), Y4)
set_option maxRecDepth 20000 in
set_option maxHeartbeats 4000000 in
theorem sn_326 {Y : Sm} (v : Int32) (Z : Sm) (h : fn_326 Y = some (v, Z)) : Mw 8 1 326 [aR 0 0, aR 66 0] Y (Rt (some (aI v)) Z) nX := by
  refine Mw_of [(0, aR 0 0), (1, aR 66 0)] ?_
  generalize ho : (v, Z) = o at h
  have hv9 : v = o.1 := congrArg Prod.fst ho
  have hZ9 : Z = o.2 := congrArg Prod.snd ho
  clear ho
  subst hv9 hZ9
  unfold fn_326 at h
  refine x_sg k326 3 (pc' := 3) (ls' := [(0, aR 0 0), (1, aR 66 0)]) (st' := [aR 0 0, aI (nI 0), aR 66 0]) (cs' := []) (fun _ => rfl) al0 ?_
  obtain ⟨o6, Y1, hv2, ⟨v3, ho7, h⟩ | ⟨x5, ho7, h⟩⟩ := bx_some h
  · subst ho7
    refine x_cV1 k326 (sn_142  _ _ hv2) rfl (st := [aI (nI 0), aR 66 0]) rfl ?_
    refine x_sw k326 2 (Z := (sJ Y1 66 0 0 ((v3).toInt64))) (pc' := 8) (ls' := [(0, aR 0 0), (1, aR 66 0)]) (st' := []) (cs' := [vp_in (nI 0) 1, allw 66 0]) (fun _ => rfl) rfl (al2 (vin rfl) (al1 rfl)) ?_
    replace h := wr_some h
    generalize (sJ Y1 66 0 0 ((v3).toInt64)) = Y4 at h ⊢
    refine x_sg k326 2 (pc' := 15) (ls' := [(0, aR 0 0), (1, aR 66 0)]) (st' := [aI (nI 0)]) (cs' := []) (fun _ => rfl) al0 ?_
    obtain rfl := Option.some.inj h
    exact x_ireturn k326 ⟨rfl, rfl⟩
  · subst ho7
    by_cases hx0 : x5 = 2
    · subst hx0
      replace h := if_t rfl h
      refine x_cVx k326 (sn_142  _ _ hv2) rfl (st := [aI (nI 0), aR 66 0]) rfl ?_
      refine x_caught 2 (by decide) ([] : List ExceptionTableEntry) ⟨0, 8, 11, 82⟩ [] rfl hpr_n rfl rfl rfl (fun a9 => ?_)
      refine x_sg k326 1 (pc' := 12) (ls' := [(0, aR 0 0), (1, aR 66 0), (2, aX a9)]) (st' := []) (cs' := []) (fun _ => rfl) al0 ?_
      refine x_sg k326 1 (pc' := 13) (ls' := [(0, aR 0 0), (1, aR 66 0), (2, aX a9)]) (st' := [aI (nI 1)]) (cs' := []) (fun _ => rfl) al0 ?_
      obtain rfl := Option.some.inj h
      exact x_ireturn k326 ⟨rfl, rfl⟩
    replace h := if_f hx0 h
    cases h
/-- the law's answeredIn -/
def fn_327 (a1 : Int32) (a2 : Int32) (Y : Sm) : Option (Int32 × Sm) :=
  bx (fn_143 a1 a2 Y) (fun x5 Y1 => if x5 = 1 then some ((nI 1), Y1) else if x5 = 3 then some ((nI 2), Y1) else none) fun v3 Y1 => wr (sJ Y1 66 0 0 ((v3).toInt64)) fun Y4 => some ((nI 0), Y4)
set_option maxRecDepth 20000 in
set_option maxHeartbeats 4000000 in
theorem sn_327 (a1 : Int32) (a2 : Int32) {Y : Sm} (v : Int32) (Z : Sm) (h : fn_327 a1 a2 Y = some (v, Z)) : Mw 10 2 327 [aR 0 0, aI a1, aI a2, aR 66 0] Y (Rt (some (aI v)) Z) nX := by
  refine Mw_of [(0, aR 0 0), (1, aI a1), (2, aI a2), (3, aR 66 0)] ?_
  generalize ho : (v, Z) = o at h
  have hv9 : v = o.1 := congrArg Prod.fst ho
  have hZ9 : Z = o.2 := congrArg Prod.snd ho
  clear ho
  subst hv9 hZ9
  unfold fn_327 at h
  refine x_sg k327 5 (pc' := 5) (ls' := [(0, aR 0 0), (1, aI a1), (2, aI a2), (3, aR 66 0)]) (st' := [aI a2, aI a1, aR 0 0, aI (nI 0), aR 66 0]) (cs' := []) (fun _ => rfl) al0 ?_
  obtain ⟨o6, Y1, hv2, ⟨v3, ho7, h⟩ | ⟨x5, ho7, h⟩⟩ := bx_some h
  · subst ho7
    refine x_cV1 k327 (sn_143 _ _ _ _ hv2) rfl (st := [aI (nI 0), aR 66 0]) rfl ?_
    refine x_sw k327 2 (Z := (sJ Y1 66 0 0 ((v3).toInt64))) (pc' := 10) (ls' := [(0, aR 0 0), (1, aI a1), (2, aI a2), (3, aR 66 0)]) (st' := []) (cs' := [vp_in (nI 0) 1, allw 66 0]) (fun _ => rfl) rfl (al2 (vin rfl) (al1 rfl)) ?_
    replace h := wr_some h
    generalize (sJ Y1 66 0 0 ((v3).toInt64)) = Y4 at h ⊢
    refine x_sg k327 2 (pc' := 22) (ls' := [(0, aR 0 0), (1, aI a1), (2, aI a2), (3, aR 66 0)]) (st' := [aI (nI 0)]) (cs' := []) (fun _ => rfl) al0 ?_
    obtain rfl := Option.some.inj h
    exact x_ireturn k327 ⟨rfl, rfl⟩
  · subst ho7
    by_cases hx0 : x5 = 1
    · subst hx0
      replace h := if_t rfl h
      refine x_cVx k327 (sn_143 _ _ _ _ hv2) rfl (st := [aI (nI 0), aR 66 0]) rfl ?_
      refine x_caught 1 (by decide) ([] : List ExceptionTableEntry) ⟨0, 10, 13, 28⟩ [⟨0, 10, 17, 30⟩] rfl hpr_n rfl rfl rfl (fun a9 => ?_)
      refine x_sg k327 1 (pc' := 15) (ls' := [(0, aR 0 0), (1, aI a1), (2, aI a2), (3, aR 66 0), (4, aX a9)]) (st' := []) (cs' := []) (fun _ => rfl) al0 ?_
      refine x_sg k327 1 (pc' := 16) (ls' := [(0, aR 0 0), (1, aI a1), (2, aI a2), (3, aR 66 0), (4, aX a9)]) (st' := [aI (nI 1)]) (cs' := []) (fun _ => rfl) al0 ?_
      obtain rfl := Option.some.inj h
      exact x_ireturn k327 ⟨rfl, rfl⟩
    replace h := if_f hx0 h
    by_cases hx1 : x5 = 3
    · subst hx1
      replace h := if_t rfl h
      refine x_cVx k327 (sn_143 _ _ _ _ hv2) rfl (st := [aI (nI 0), aR 66 0]) rfl ?_
      refine x_caught 3 (by decide) ([⟨0, 10, 13, 28⟩] : List ExceptionTableEntry) ⟨0, 10, 17, 30⟩ [] rfl (hpr_c (x' := 1) (by decide) (by decide) rfl hpr_n) rfl rfl rfl (fun a9 => ?_)
      refine x_sg k327 1 (pc' := 19) (ls' := [(0, aR 0 0), (1, aI a1), (2, aI a2), (3, aR 66 0), (4, aX a9)]) (st' := []) (cs' := []) (fun _ => rfl) al0 ?_
      refine x_sg k327 1 (pc' := 20) (ls' := [(0, aR 0 0), (1, aI a1), (2, aI a2), (3, aR 66 0), (4, aX a9)]) (st' := [aI (nI 2)]) (cs' := []) (fun _ => rfl) al0 ?_
      obtain rfl := Option.some.inj h
      exact x_ireturn k327 ⟨rfl, rfl⟩
    replace h := if_f hx1 h
    cases h
/-- the law's answersIn -/
def fn_328 (a1 : Int32) (a2 : Int32) (Y : Sm) : Option (Int32 × Sm) :=
  bx (fn_144 a1 a2 Y) (fun x5 Y1 => if x5 = 0 then some ((nI 1), Y1) else if x5 = 1 then some ((nI 2), Y1) else none) fun v3 Y1 => wr (sJ Y1 66 0 0 ((v3).toInt64)) fun Y4 => some ((nI 0), Y4)
set_option maxRecDepth 20000 in
set_option maxHeartbeats 4000000 in
theorem sn_328 (a1 : Int32) (a2 : Int32) {Y : Sm} (v : Int32) (Z : Sm) (h : fn_328 a1 a2 Y = some (v, Z)) : Mw 11 2 328 [aR 0 0, aI a1, aI a2, aR 66 0] Y (Rt (some (aI v)) Z) nX := by
  refine Mw_of [(0, aR 0 0), (1, aI a1), (2, aI a2), (3, aR 66 0)] ?_
  generalize ho : (v, Z) = o at h
  have hv9 : v = o.1 := congrArg Prod.fst ho
  have hZ9 : Z = o.2 := congrArg Prod.snd ho
  clear ho
  subst hv9 hZ9
  unfold fn_328 at h
  refine x_sg k328 5 (pc' := 5) (ls' := [(0, aR 0 0), (1, aI a1), (2, aI a2), (3, aR 66 0)]) (st' := [aI a2, aI a1, aR 0 0, aI (nI 0), aR 66 0]) (cs' := []) (fun _ => rfl) al0 ?_
  obtain ⟨o6, Y1, hv2, ⟨v3, ho7, h⟩ | ⟨x5, ho7, h⟩⟩ := bx_some h
  · subst ho7
    refine x_cV1 k328 (sn_144 _ _ _ _ hv2) rfl (st := [aI (nI 0), aR 66 0]) rfl ?_
    refine x_sw k328 2 (Z := (sJ Y1 66 0 0 ((v3).toInt64))) (pc' := 10) (ls' := [(0, aR 0 0), (1, aI a1), (2, aI a2), (3, aR 66 0)]) (st' := []) (cs' := [vp_in (nI 0) 1, allw 66 0]) (fun _ => rfl) rfl (al2 (vin rfl) (al1 rfl)) ?_
    replace h := wr_some h
    generalize (sJ Y1 66 0 0 ((v3).toInt64)) = Y4 at h ⊢
    refine x_sg k328 2 (pc' := 22) (ls' := [(0, aR 0 0), (1, aI a1), (2, aI a2), (3, aR 66 0)]) (st' := [aI (nI 0)]) (cs' := []) (fun _ => rfl) al0 ?_
    obtain rfl := Option.some.inj h
    exact x_ireturn k328 ⟨rfl, rfl⟩
  · subst ho7
    by_cases hx0 : x5 = 0
    · subst hx0
      replace h := if_t rfl h
      refine x_cVx k328 (sn_144 _ _ _ _ hv2) rfl (st := [aI (nI 0), aR 66 0]) rfl ?_
      refine x_caught 0 (by decide) ([] : List ExceptionTableEntry) ⟨0, 10, 13, 13⟩ [⟨0, 10, 17, 28⟩] rfl hpr_n rfl rfl rfl (fun a9 => ?_)
      refine x_sg k328 1 (pc' := 15) (ls' := [(0, aR 0 0), (1, aI a1), (2, aI a2), (3, aR 66 0), (4, aX a9)]) (st' := []) (cs' := []) (fun _ => rfl) al0 ?_
      refine x_sg k328 1 (pc' := 16) (ls' := [(0, aR 0 0), (1, aI a1), (2, aI a2), (3, aR 66 0), (4, aX a9)]) (st' := [aI (nI 1)]) (cs' := []) (fun _ => rfl) al0 ?_
      obtain rfl := Option.some.inj h
      exact x_ireturn k328 ⟨rfl, rfl⟩
    replace h := if_f hx0 h
    by_cases hx1 : x5 = 1
    · subst hx1
      replace h := if_t rfl h
      refine x_cVx k328 (sn_144 _ _ _ _ hv2) rfl (st := [aI (nI 0), aR 66 0]) rfl ?_
      refine x_caught 1 (by decide) ([⟨0, 10, 13, 13⟩] : List ExceptionTableEntry) ⟨0, 10, 17, 28⟩ [] rfl (hpr_c (x' := 0) (by decide) (by decide) rfl hpr_n) rfl rfl rfl (fun a9 => ?_)
      refine x_sg k328 1 (pc' := 19) (ls' := [(0, aR 0 0), (1, aI a1), (2, aI a2), (3, aR 66 0), (4, aX a9)]) (st' := []) (cs' := []) (fun _ => rfl) al0 ?_
      refine x_sg k328 1 (pc' := 20) (ls' := [(0, aR 0 0), (1, aI a1), (2, aI a2), (3, aR 66 0), (4, aX a9)]) (st' := [aI (nI 2)]) (cs' := []) (fun _ => rfl) al0 ?_
      obtain rfl := Option.some.inj h
      exact x_ireturn k328 ⟨rfl, rfl⟩
    replace h := if_f hx1 h
    cases h
/-- the law's bestVeto -/
def fn_329 (a1 : Int32) (a2 : Int32) (Y : Sm) : Option (Int32 × Sm) :=
  bx (fn_145 a1 a2 Y) (fun x5 Y1 => if x5 = 0 then some ((nI 1), Y1) else if x5 = 1 then some ((nI 2), Y1) else none) fun v3 Y1 => wr (sJ Y1 66 0 0 ((v3).toInt64)) fun Y4 => some ((nI 0), Y4)
set_option maxRecDepth 20000 in
set_option maxHeartbeats 4000000 in
theorem sn_329 (a1 : Int32) (a2 : Int32) {Y : Sm} (v : Int32) (Z : Sm) (h : fn_329 a1 a2 Y = some (v, Z)) : Mw 11 2 329 [aR 0 0, aI a1, aI a2, aR 66 0] Y (Rt (some (aI v)) Z) nX := by
  refine Mw_of [(0, aR 0 0), (1, aI a1), (2, aI a2), (3, aR 66 0)] ?_
  generalize ho : (v, Z) = o at h
  have hv9 : v = o.1 := congrArg Prod.fst ho
  have hZ9 : Z = o.2 := congrArg Prod.snd ho
  clear ho
  subst hv9 hZ9
  unfold fn_329 at h
  refine x_sg k329 5 (pc' := 5) (ls' := [(0, aR 0 0), (1, aI a1), (2, aI a2), (3, aR 66 0)]) (st' := [aI a2, aI a1, aR 0 0, aI (nI 0), aR 66 0]) (cs' := []) (fun _ => rfl) al0 ?_
  obtain ⟨o6, Y1, hv2, ⟨v3, ho7, h⟩ | ⟨x5, ho7, h⟩⟩ := bx_some h
  · subst ho7
    refine x_cV1 k329 (sn_145 _ _ _ _ hv2) rfl (st := [aI (nI 0), aR 66 0]) rfl ?_
    refine x_sw k329 2 (Z := (sJ Y1 66 0 0 ((v3).toInt64))) (pc' := 10) (ls' := [(0, aR 0 0), (1, aI a1), (2, aI a2), (3, aR 66 0)]) (st' := []) (cs' := [vp_in (nI 0) 1, allw 66 0]) (fun _ => rfl) rfl (al2 (vin rfl) (al1 rfl)) ?_
    replace h := wr_some h
    generalize (sJ Y1 66 0 0 ((v3).toInt64)) = Y4 at h ⊢
    refine x_sg k329 2 (pc' := 22) (ls' := [(0, aR 0 0), (1, aI a1), (2, aI a2), (3, aR 66 0)]) (st' := [aI (nI 0)]) (cs' := []) (fun _ => rfl) al0 ?_
    obtain rfl := Option.some.inj h
    exact x_ireturn k329 ⟨rfl, rfl⟩
  · subst ho7
    by_cases hx0 : x5 = 0
    · subst hx0
      replace h := if_t rfl h
      refine x_cVx k329 (sn_145 _ _ _ _ hv2) rfl (st := [aI (nI 0), aR 66 0]) rfl ?_
      refine x_caught 0 (by decide) ([] : List ExceptionTableEntry) ⟨0, 10, 13, 13⟩ [⟨0, 10, 17, 28⟩] rfl hpr_n rfl rfl rfl (fun a9 => ?_)
      refine x_sg k329 1 (pc' := 15) (ls' := [(0, aR 0 0), (1, aI a1), (2, aI a2), (3, aR 66 0), (4, aX a9)]) (st' := []) (cs' := []) (fun _ => rfl) al0 ?_
      refine x_sg k329 1 (pc' := 16) (ls' := [(0, aR 0 0), (1, aI a1), (2, aI a2), (3, aR 66 0), (4, aX a9)]) (st' := [aI (nI 1)]) (cs' := []) (fun _ => rfl) al0 ?_
      obtain rfl := Option.some.inj h
      exact x_ireturn k329 ⟨rfl, rfl⟩
    replace h := if_f hx0 h
    by_cases hx1 : x5 = 1
    · subst hx1
      replace h := if_t rfl h
      refine x_cVx k329 (sn_145 _ _ _ _ hv2) rfl (st := [aI (nI 0), aR 66 0]) rfl ?_
      refine x_caught 1 (by decide) ([⟨0, 10, 13, 13⟩] : List ExceptionTableEntry) ⟨0, 10, 17, 28⟩ [] rfl (hpr_c (x' := 0) (by decide) (by decide) rfl hpr_n) rfl rfl rfl (fun a9 => ?_)
      refine x_sg k329 1 (pc' := 19) (ls' := [(0, aR 0 0), (1, aI a1), (2, aI a2), (3, aR 66 0), (4, aX a9)]) (st' := []) (cs' := []) (fun _ => rfl) al0 ?_
      refine x_sg k329 1 (pc' := 20) (ls' := [(0, aR 0 0), (1, aI a1), (2, aI a2), (3, aR 66 0), (4, aX a9)]) (st' := [aI (nI 2)]) (cs' := []) (fun _ => rfl) al0 ?_
      obtain rfl := Option.some.inj h
      exact x_ireturn k329 ⟨rfl, rfl⟩
    replace h := if_f hx1 h
    cases h
/-- the law's bestTally -/
def fn_330 (a1 : Int32) (Y : Sm) : Option (Int32 × Sm) :=
  bx (fn_146 a1 Y) (fun x5 Y1 => if x5 = 1 then some ((nI 1), Y1) else none) fun v3 Y1 => wr (sJ Y1 66 0 0 ((v3).toInt64)) fun Y4 => some ((nI 0), Y4)
set_option maxRecDepth 20000 in
set_option maxHeartbeats 4000000 in
theorem sn_330 (a1 : Int32) {Y : Sm} (v : Int32) (Z : Sm) (h : fn_330 a1 Y = some (v, Z)) : Mw 11 1 330 [aR 0 0, aI a1, aR 66 0] Y (Rt (some (aI v)) Z) nX := by
  refine Mw_of [(0, aR 0 0), (1, aI a1), (2, aR 66 0)] ?_
  generalize ho : (v, Z) = o at h
  have hv9 : v = o.1 := congrArg Prod.fst ho
  have hZ9 : Z = o.2 := congrArg Prod.snd ho
  clear ho
  subst hv9 hZ9
  unfold fn_330 at h
  refine x_sg k330 4 (pc' := 4) (ls' := [(0, aR 0 0), (1, aI a1), (2, aR 66 0)]) (st' := [aI a1, aR 0 0, aI (nI 0), aR 66 0]) (cs' := []) (fun _ => rfl) al0 ?_
  obtain ⟨o6, Y1, hv2, ⟨v3, ho7, h⟩ | ⟨x5, ho7, h⟩⟩ := bx_some h
  · subst ho7
    refine x_cV1 k330 (sn_146 _ _ _ hv2) rfl (st := [aI (nI 0), aR 66 0]) rfl ?_
    refine x_sw k330 2 (Z := (sJ Y1 66 0 0 ((v3).toInt64))) (pc' := 9) (ls' := [(0, aR 0 0), (1, aI a1), (2, aR 66 0)]) (st' := []) (cs' := [vp_in (nI 0) 1, allw 66 0]) (fun _ => rfl) rfl (al2 (vin rfl) (al1 rfl)) ?_
    replace h := wr_some h
    generalize (sJ Y1 66 0 0 ((v3).toInt64)) = Y4 at h ⊢
    refine x_sg k330 2 (pc' := 16) (ls' := [(0, aR 0 0), (1, aI a1), (2, aR 66 0)]) (st' := [aI (nI 0)]) (cs' := []) (fun _ => rfl) al0 ?_
    obtain rfl := Option.some.inj h
    exact x_ireturn k330 ⟨rfl, rfl⟩
  · subst ho7
    by_cases hx0 : x5 = 1
    · subst hx0
      replace h := if_t rfl h
      refine x_cVx k330 (sn_146 _ _ _ hv2) rfl (st := [aI (nI 0), aR 66 0]) rfl ?_
      refine x_caught 1 (by decide) ([] : List ExceptionTableEntry) ⟨0, 9, 12, 28⟩ [] rfl hpr_n rfl rfl rfl (fun a9 => ?_)
      refine x_sg k330 1 (pc' := 13) (ls' := [(0, aR 0 0), (1, aI a1), (2, aR 66 0), (3, aX a9)]) (st' := []) (cs' := []) (fun _ => rfl) al0 ?_
      refine x_sg k330 1 (pc' := 14) (ls' := [(0, aR 0 0), (1, aI a1), (2, aR 66 0), (3, aX a9)]) (st' := [aI (nI 1)]) (cs' := []) (fun _ => rfl) al0 ?_
      obtain rfl := Option.some.inj h
      exact x_ireturn k330 ⟨rfl, rfl⟩
    replace h := if_f hx0 h
    cases h
/-- the law's bestBallot -/
def fn_331 (a1 : Int32) (Y : Sm) : Option (Int32 × Sm) :=
  bx (fn_147 a1 Y) (fun x5 Y1 => if x5 = 1 then some ((nI 1), Y1) else none) fun v3 Y1 => wr (sJ Y1 66 0 0 ((v3).toInt64)) fun Y4 => some ((nI 0), Y4)
set_option maxRecDepth 20000 in
set_option maxHeartbeats 4000000 in
theorem sn_331 (a1 : Int32) {Y : Sm} (v : Int32) (Z : Sm) (h : fn_331 a1 Y = some (v, Z)) : Mw 11 1 331 [aR 0 0, aI a1, aR 66 0] Y (Rt (some (aI v)) Z) nX := by
  refine Mw_of [(0, aR 0 0), (1, aI a1), (2, aR 66 0)] ?_
  generalize ho : (v, Z) = o at h
  have hv9 : v = o.1 := congrArg Prod.fst ho
  have hZ9 : Z = o.2 := congrArg Prod.snd ho
  clear ho
  subst hv9 hZ9
  unfold fn_331 at h
  refine x_sg k331 4 (pc' := 4) (ls' := [(0, aR 0 0), (1, aI a1), (2, aR 66 0)]) (st' := [aI a1, aR 0 0, aI (nI 0), aR 66 0]) (cs' := []) (fun _ => rfl) al0 ?_
  obtain ⟨o6, Y1, hv2, ⟨v3, ho7, h⟩ | ⟨x5, ho7, h⟩⟩ := bx_some h
  · subst ho7
    refine x_cV1 k331 (sn_147 _ _ _ hv2) rfl (st := [aI (nI 0), aR 66 0]) rfl ?_
    refine x_sw k331 2 (Z := (sJ Y1 66 0 0 ((v3).toInt64))) (pc' := 9) (ls' := [(0, aR 0 0), (1, aI a1), (2, aR 66 0)]) (st' := []) (cs' := [vp_in (nI 0) 1, allw 66 0]) (fun _ => rfl) rfl (al2 (vin rfl) (al1 rfl)) ?_
    replace h := wr_some h
    generalize (sJ Y1 66 0 0 ((v3).toInt64)) = Y4 at h ⊢
    refine x_sg k331 2 (pc' := 16) (ls' := [(0, aR 0 0), (1, aI a1), (2, aR 66 0)]) (st' := [aI (nI 0)]) (cs' := []) (fun _ => rfl) al0 ?_
    obtain rfl := Option.some.inj h
    exact x_ireturn k331 ⟨rfl, rfl⟩
  · subst ho7
    by_cases hx0 : x5 = 1
    · subst hx0
      replace h := if_t rfl h
      refine x_cVx k331 (sn_147 _ _ _ hv2) rfl (st := [aI (nI 0), aR 66 0]) rfl ?_
      refine x_caught 1 (by decide) ([] : List ExceptionTableEntry) ⟨0, 9, 12, 28⟩ [] rfl hpr_n rfl rfl rfl (fun a9 => ?_)
      refine x_sg k331 1 (pc' := 13) (ls' := [(0, aR 0 0), (1, aI a1), (2, aR 66 0), (3, aX a9)]) (st' := []) (cs' := []) (fun _ => rfl) al0 ?_
      refine x_sg k331 1 (pc' := 14) (ls' := [(0, aR 0 0), (1, aI a1), (2, aR 66 0), (3, aX a9)]) (st' := [aI (nI 1)]) (cs' := []) (fun _ => rfl) al0 ?_
      obtain rfl := Option.some.inj h
      exact x_ireturn k331 ⟨rfl, rfl⟩
    replace h := if_f hx0 h
    cases h
/-- the law's silentIn -/
def fn_332 (a1 : Int32) (Y : Sm) : Option (Int32 × Sm) :=
  bx (fn_148 a1 Y) (fun x5 Y1 => if x5 = 0 then some ((nI 1), Y1) else none) fun v3 Y1 => wr (sJ Y1 66 0 0 ((v3).toInt64)) fun Y4 => some ((nI 0), Y4)
set_option maxRecDepth 20000 in
set_option maxHeartbeats 4000000 in
theorem sn_332 (a1 : Int32) {Y : Sm} (v : Int32) (Z : Sm) (h : fn_332 a1 Y = some (v, Z)) : Mw 10 1 332 [aR 0 0, aI a1, aR 66 0] Y (Rt (some (aI v)) Z) nX := by
  refine Mw_of [(0, aR 0 0), (1, aI a1), (2, aR 66 0)] ?_
  generalize ho : (v, Z) = o at h
  have hv9 : v = o.1 := congrArg Prod.fst ho
  have hZ9 : Z = o.2 := congrArg Prod.snd ho
  clear ho
  subst hv9 hZ9
  unfold fn_332 at h
  refine x_sg k332 4 (pc' := 4) (ls' := [(0, aR 0 0), (1, aI a1), (2, aR 66 0)]) (st' := [aI a1, aR 0 0, aI (nI 0), aR 66 0]) (cs' := []) (fun _ => rfl) al0 ?_
  obtain ⟨o6, Y1, hv2, ⟨v3, ho7, h⟩ | ⟨x5, ho7, h⟩⟩ := bx_some h
  · subst ho7
    refine x_cV1 k332 (sn_148 _ _ _ hv2) rfl (st := [aI (nI 0), aR 66 0]) rfl ?_
    refine x_sw k332 2 (Z := (sJ Y1 66 0 0 ((v3).toInt64))) (pc' := 9) (ls' := [(0, aR 0 0), (1, aI a1), (2, aR 66 0)]) (st' := []) (cs' := [vp_in (nI 0) 1, allw 66 0]) (fun _ => rfl) rfl (al2 (vin rfl) (al1 rfl)) ?_
    replace h := wr_some h
    generalize (sJ Y1 66 0 0 ((v3).toInt64)) = Y4 at h ⊢
    refine x_sg k332 2 (pc' := 16) (ls' := [(0, aR 0 0), (1, aI a1), (2, aR 66 0)]) (st' := [aI (nI 0)]) (cs' := []) (fun _ => rfl) al0 ?_
    obtain rfl := Option.some.inj h
    exact x_ireturn k332 ⟨rfl, rfl⟩
  · subst ho7
    by_cases hx0 : x5 = 0
    · subst hx0
      replace h := if_t rfl h
      refine x_cVx k332 (sn_148 _ _ _ hv2) rfl (st := [aI (nI 0), aR 66 0]) rfl ?_
      refine x_caught 0 (by decide) ([] : List ExceptionTableEntry) ⟨0, 9, 12, 13⟩ [] rfl hpr_n rfl rfl rfl (fun a9 => ?_)
      refine x_sg k332 1 (pc' := 13) (ls' := [(0, aR 0 0), (1, aI a1), (2, aR 66 0), (3, aX a9)]) (st' := []) (cs' := []) (fun _ => rfl) al0 ?_
      refine x_sg k332 1 (pc' := 14) (ls' := [(0, aR 0 0), (1, aI a1), (2, aR 66 0), (3, aX a9)]) (st' := [aI (nI 1)]) (cs' := []) (fun _ => rfl) al0 ?_
      obtain rfl := Option.some.inj h
      exact x_ireturn k332 ⟨rfl, rfl⟩
    replace h := if_f hx0 h
    cases h
/-- the law's restoreState -/
def fn_333 (Y : Sm) : Option (Int32 × Sm) :=
  bx (fn_153 Y) (fun x5 Y1 => if x5 = 2 then some ((nI 1), Y1) else none) fun v3 Y1 => wr (sJ Y1 66 0 0 ((v3).toInt64)) fun Y4 => some ((nI 0), Y4)
set_option maxRecDepth 20000 in
set_option maxHeartbeats 4000000 in
theorem sn_333 {Y : Sm} (v : Int32) (Z : Sm) (h : fn_333 Y = some (v, Z)) : Mw 7 1 333 [aR 0 0, aR 66 0] Y (Rt (some (aI v)) Z) nX := by
  refine Mw_of [(0, aR 0 0), (1, aR 66 0)] ?_
  generalize ho : (v, Z) = o at h
  have hv9 : v = o.1 := congrArg Prod.fst ho
  have hZ9 : Z = o.2 := congrArg Prod.snd ho
  clear ho
  subst hv9 hZ9
  unfold fn_333 at h
  refine x_sg k333 3 (pc' := 3) (ls' := [(0, aR 0 0), (1, aR 66 0)]) (st' := [aR 0 0, aI (nI 0), aR 66 0]) (cs' := []) (fun _ => rfl) al0 ?_
  obtain ⟨o6, Y1, hv2, ⟨v3, ho7, h⟩ | ⟨x5, ho7, h⟩⟩ := bx_some h
  · subst ho7
    refine x_cV1 k333 (sn_153  _ _ hv2) rfl (st := [aI (nI 0), aR 66 0]) rfl ?_
    refine x_sw k333 2 (Z := (sJ Y1 66 0 0 ((v3).toInt64))) (pc' := 8) (ls' := [(0, aR 0 0), (1, aR 66 0)]) (st' := []) (cs' := [vp_in (nI 0) 1, allw 66 0]) (fun _ => rfl) rfl (al2 (vin rfl) (al1 rfl)) ?_
    replace h := wr_some h
    generalize (sJ Y1 66 0 0 ((v3).toInt64)) = Y4 at h ⊢
    refine x_sg k333 2 (pc' := 15) (ls' := [(0, aR 0 0), (1, aR 66 0)]) (st' := [aI (nI 0)]) (cs' := []) (fun _ => rfl) al0 ?_
    obtain rfl := Option.some.inj h
    exact x_ireturn k333 ⟨rfl, rfl⟩
  · subst ho7
    by_cases hx0 : x5 = 2
    · subst hx0
      replace h := if_t rfl h
      refine x_cVx k333 (sn_153  _ _ hv2) rfl (st := [aI (nI 0), aR 66 0]) rfl ?_
      refine x_caught 2 (by decide) ([] : List ExceptionTableEntry) ⟨0, 8, 11, 82⟩ [] rfl hpr_n rfl rfl rfl (fun a9 => ?_)
      refine x_sg k333 1 (pc' := 12) (ls' := [(0, aR 0 0), (1, aR 66 0), (2, aX a9)]) (st' := []) (cs' := []) (fun _ => rfl) al0 ?_
      refine x_sg k333 1 (pc' := 13) (ls' := [(0, aR 0 0), (1, aR 66 0), (2, aX a9)]) (st' := [aI (nI 1)]) (cs' := []) (fun _ => rfl) al0 ?_
      obtain rfl := Option.some.inj h
      exact x_ireturn k333 ⟨rfl, rfl⟩
    replace h := if_f hx0 h
    cases h
