section VXIA
variable {p : Program} {l : Launch} {e : Env} {R : Room} {s : State} {m : MethodId} {args : Array Value} {below : List Frame} {meth : Method} {c : Code} {T : State} {locs : List Loc} {cells slots : Nat}
theorem vx_callI (X : Stand p l e R s m args below meth c T locs cells slots) (hexec : p.tables.exec = Jvm.exec) {own : String} {index : Nat} {y : MethodName} {bytes : ByteArray} {maxL : Nat}
    (hown : s.vm.findClass own = some m.cls) (hy1 : y.name = "<init>") (hlink : (Cond.methodLink own index y).before args s = true) (hinst : (Cond.instanceMethod y).before args s = true)
    (hcode : (Cond.code y bytes maxL none).before args s = true) (hy : y.cls ≠ "java/lang/invoke/MethodHandle" ∧ y.cls ≠ "java/lang/invoke/VarHandle")
    {W9 : Nat} {Pre : Pt → Array Value → Prop} {Post : Pt → Array Value → Option Value → Pt → Prop} {PostX : Pt → Array Value → Addr → Pt → Prop} (hK : vx_Back l R p e below s args y 3 W9 Pre Post PostX)
    {g : JFrame} (hg : g.method = m) (hsize : g.locals.size = c.maxLocals) {a : Addr} {argsL rest : List Value} (hlen : ∀ sig, parseMethodDescriptor y.desc = some sig → argsL.length = sig.parameters.length)
    (hstack : g.stack = argsL.reverse ++ .ref a :: rest) (hW : 2 * g.monitorRoom + (rest.map fun v => v.category).sum ≤ W9) (hdg : decode c.code g.pc = .ok (.invokespecial index, 3))
    (hpre : ∀ vm₁, s.WarmedH vm₁ → Pre ⟨T.setVm vm₁, locs, cells, slots⟩ (Value.ref a :: argsL).toArray) :
    (∃ (v : Option Value) (vm₁ : Jvm.Vm) (B : Pt), s.WarmedH vm₁ ∧ Stand p l e R s m args below meth c B.U B.locs B.cells B.slots ∧ Post ⟨T.setVm vm₁, locs, cells, slots⟩ (Value.ref a :: argsL).toArray v B ∧
      ∀ target, Steps p.tables e below (B.U.setTop { g with pc := g.pc + 3, stack := v.toList ++ rest }) target → Steps p.tables e below (T.setTop g) target) ∨
    (∃ (q : Addr) (vm₁ : Jvm.Vm) (B : Pt), s.WarmedH vm₁ ∧ Stand p l e R s m args below meth c B.U B.locs B.cells B.slots ∧ PostX ⟨T.setVm vm₁, locs, cells, slots⟩ (Value.ref a :: argsL).toArray q B ∧
      Steps p.tables e below (T.setTop g) ((B.U.setTop { g with stack := rest }).pushFrame (.throwing q))) := by
  subst hg
  have hpl : e.platform.magicAccessors = ({} : Platform).magicAccessors := by rw [X.admits.platform]
  obtain ⟨mk, methM, cM, kP, vm₁, hnamed, hmethM, hcodeM, -, hlocalsM, -, hkP, -, hW₁, hstep₁⟩ := Steps.initColdArgs (e := e) X.here hexec X.warmed hpl hown hy1 hy hlink hinst hcode (f := g) rfl hlen hstack hdg
  have X₁ := X.noted hW₁
  rcases hK g.method meth c ⟨T.setVm vm₁, locs, cells, slots⟩ { g with stack := rest } (.invokespecial index) mk (Value.ref a :: argsL).toArray X₁ rfl hsize hdg hW (X₁.named hnamed) (hpre vm₁ X₁.warmed) with ⟨v, B, X', hpost, hsteps⟩ | ⟨q, B, X', hpost, hsteps⟩
  · exact Or.inl ⟨v, vm₁, B, X₁.warmed, X', hpost, fun target h => hstep₁ _ fun acts => by rw [doInvoke_state]; exact hsteps.trans h⟩
  · exact Or.inr ⟨q, vm₁, B, X₁.warmed, X', hpost, hstep₁ _ fun acts => by rw [doInvoke_state]; exact hsteps⟩
end VXIA
section VXIB
variable {p : Program} {l : Launch} {e : Env} {R : Room} {s : State} {m : MethodId} {args : Array Value} {below : List Frame} {meth : Method} {c : Code} {H : Heap} {locs : List Loc} {cells slots : Nat}
variable {y : MethodName} {bytes cc : ByteArray} {maxL nL mc ms n index : Nat} {ret : Option FieldType} {ws : List Cond} {rm : Room} {Pc : Array Value → State → Prop} {Qc : Array Value → State → Outcome → State → Prop} {XC : String → State → State → Prop} {free : Addr → Prop} {Ts : List Cond} {own C : String} {b : Addr} {As rest : List Value} {g : JFrame}
theorem vx_runI (S : CallFix p m c cc nL s args Ts own) (hM : vx_Met l y ws rm Pc Qc XC mc ms free) (cw : CallB R s args own index y bytes maxL none ws rm mc ms n ∧ y.name = "<init>" ∧ (Cond.instanceMethod y).before args s = true) (hp : PreS s H Pc (.ref b :: As))
    (hg : g.method = m) (hn : As.length = n) (hsize : g.locals.size = nL) (hstack : g.stack = As.reverse ++ .ref b :: rest) (hW : 2 * g.monitorRoom + (rest.map fun v => v.category).sum ≤ 8) (hdg : decode cc g.pc = .ok (.invokespecial index, 3)) (hf : cells + mc ≤ R.cells ∧ slots + ms ≤ R.slots) :
    vx_Run p l e R s m args below meth c H locs cells slots mc ms g rest (Qc (Value.ref b :: As).toArray) XC free := by
  have hK : vx_Back l R p e below s args y 3 8 (PreOf R mc ms Pc) (PostOf Qc mc ms free) (vx_Post XC mc ms free) := vx_callBack cw.1 hM hp.1
  obtain ⟨⟨-, -, -, -, -, -, hcode, -, hy, hlen, hl⟩, hy1, hin⟩ := cw
  obtain ⟨hx, hb, hml, ho, -⟩ := S
  have hPc := hp.2
  intro T hT X
  rcases vx_callI X hx (bytes := bytes) (maxL := maxL) ho hy1 hl hin hcode hy hK hg (hsize.trans hml.symm) (a := b) (argsL := As) (rest := rest) (fun sig h => hn.trans (hlen sig h)) hstack hW (by rw [hb]; exact hdg)
    (fun vm₁ hW₁ => ⟨hf.1, hf.2, hPc (T.setVm vm₁) hT hW₁⟩) with ⟨v, vm₁, ⟨U', l2, c2, s2⟩, hW₁, X', ⟨g', mk, t, L, e1, e2, hq, h1, hL, h2, h3⟩, st⟩ | ⟨q, vm₁, ⟨U', l2, c2, s2⟩, hW₁, X', ⟨g', mk, t, L, E, ce, e1, e2, hq, hce, hcv, hcl, h1, hL, h2, h3⟩, st⟩
  · dsimp only [Pt.U, Pt.locs, Pt.cells, Pt.slots] at X' e1 e2 h1 h2 h3 st
    subst h1; subst h2; subst h3
    exact Or.inl ⟨v, (T.setVm vm₁).calling g' mk (Value.ref b :: As).toArray, t, U', L, hT, X', hL, e1, e2, hq, st⟩
  · dsimp only [Pt.U, Pt.locs, Pt.cells, Pt.slots] at X' e1 e2 h1 h2 h3 st hcl
    subst h1; subst h2; subst h3
    exact Or.inr ⟨q, (T.setVm vm₁).calling g' mk (Value.ref b :: As).toArray, t, U', L, E, ce, hT, X', hL, e1, e2, hq, hce, hcv, vx_cls hW₁ hcl, st⟩
end VXIB
section VXIC
variable {p : Program} {l : Launch} {e : Env} {R : Room} {s : State} {m : MethodId} {args : Array Value} {below : List Frame} {meth : Method} {c : Code} {T : State} {locs : List Loc} {cells slots : Nat}
theorem vx_callIN (X : Stand p l e R s m args below meth c T locs cells slots) (hexec : p.tables.exec = Jvm.exec) {own : String} {index : Nat} {host : String} {y : MethodName} {bytes : ByteArray} {maxL : Nat}
    (hown : s.vm.findClass own = some m.cls) (hy1 : y.name = "<init>") (hlink : (Cond.methodLinkNest own index y host).before args s = true) (hinst : (Cond.instanceMethod y).before args s = true)
    (hcode : (Cond.code y bytes maxL none).before args s = true) (hy : y.cls ≠ "java/lang/invoke/MethodHandle" ∧ y.cls ≠ "java/lang/invoke/VarHandle")
    {W9 : Nat} {Pre : Pt → Array Value → Prop} {Post : Pt → Array Value → Option Value → Pt → Prop} {PostX : Pt → Array Value → Addr → Pt → Prop} (hK : vx_Back l R p e below s args y 3 W9 Pre Post PostX)
    {g : JFrame} (hg : g.method = m) (hsize : g.locals.size = c.maxLocals) {a : Addr} {argsL rest : List Value} (hlen : ∀ sig, parseMethodDescriptor y.desc = some sig → argsL.length = sig.parameters.length)
    (hstack : g.stack = argsL.reverse ++ .ref a :: rest) (hW : 2 * g.monitorRoom + (rest.map fun v => v.category).sum ≤ W9) (hdg : decode c.code g.pc = .ok (.invokespecial index, 3))
    (hpre : ∀ vm₁, s.WarmedH vm₁ → Pre ⟨T.setVm vm₁, locs, cells, slots⟩ (Value.ref a :: argsL).toArray) :
    (∃ (v : Option Value) (vm₁ : Jvm.Vm) (B : Pt), s.WarmedH vm₁ ∧ Stand p l e R s m args below meth c B.U B.locs B.cells B.slots ∧ Post ⟨T.setVm vm₁, locs, cells, slots⟩ (Value.ref a :: argsL).toArray v B ∧
      ∀ target, Steps p.tables e below (B.U.setTop { g with pc := g.pc + 3, stack := v.toList ++ rest }) target → Steps p.tables e below (T.setTop g) target) ∨
    (∃ (q : Addr) (vm₁ : Jvm.Vm) (B : Pt), s.WarmedH vm₁ ∧ Stand p l e R s m args below meth c B.U B.locs B.cells B.slots ∧ PostX ⟨T.setVm vm₁, locs, cells, slots⟩ (Value.ref a :: argsL).toArray q B ∧
      Steps p.tables e below (T.setTop g) ((B.U.setTop { g with stack := rest }).pushFrame (.throwing q))) := by
  subst hg
  have hpl : e.platform.magicAccessors = ({} : Platform).magicAccessors := by rw [X.admits.platform]
  obtain ⟨mk, methM, cM, kP, vm₁, hnamed, hmethM, hcodeM, -, hlocalsM, -, hkP, -, hW₁, hstep₁⟩ := Steps.initColdArgsNest (e := e) X.here hexec X.warmed hpl hown hy1 hy hlink hinst hcode (f := g) rfl hlen hstack hdg
  have X₁ := X.noted hW₁
  rcases hK g.method meth c ⟨T.setVm vm₁, locs, cells, slots⟩ { g with stack := rest } (.invokespecial index) mk (Value.ref a :: argsL).toArray X₁ rfl hsize hdg hW (X₁.named hnamed) (hpre vm₁ X₁.warmed) with ⟨v, B, X', hpost, hsteps⟩ | ⟨q, B, X', hpost, hsteps⟩
  · exact Or.inl ⟨v, vm₁, B, X₁.warmed, X', hpost, fun target h => hstep₁ _ fun acts => by rw [doInvoke_state]; exact hsteps.trans h⟩
  · exact Or.inr ⟨q, vm₁, B, X₁.warmed, X', hpost, hstep₁ _ fun acts => by rw [doInvoke_state]; exact hsteps⟩
end VXIC
section VXID
variable {p : Program} {l : Launch} {e : Env} {R : Room} {s : State} {m : MethodId} {args : Array Value} {below : List Frame} {meth : Method} {c : Code} {H : Heap} {locs : List Loc} {cells slots : Nat}
theorem vx_runIN {y : MethodName} {bytes cc : ByteArray} {maxL nL mc ms n index : Nat} {ws : List Cond} {rm : Room} {Pc : Array Value → State → Prop} {Qc : Array Value → State → Outcome → State → Prop} {XC : String → State → State → Prop} {free : Addr → Prop} {Ts : List Cond} {own host : String} {b : Addr} {As rest : List Value} {g : JFrame}
    (S : CallFix p m c cc nL s args Ts own) (hM : vx_Met l y ws rm Pc Qc XC mc ms free) (cw : va_CN R s args own index y host bytes maxL none ws rm mc ms n ∧ y.name = "<init>" ∧ (Cond.instanceMethod y).before args s = true) (hp : PreS s H Pc (.ref b :: As))
    (hg : g.method = m) (hn : As.length = n) (hsize : g.locals.size = nL) (hstack : g.stack = As.reverse ++ .ref b :: rest) (hW : 2 * g.monitorRoom + (rest.map fun v => v.category).sum ≤ 8) (hdg : decode cc g.pc = .ok (.invokespecial index, 3)) (hf : cells + mc ≤ R.cells ∧ slots + ms ≤ R.slots) :
    vx_Run p l e R s m args below meth c H locs cells slots mc ms g rest (Qc (Value.ref b :: As).toArray) XC free := by
  obtain ⟨⟨⟨hrc, hrs, hfr, hlo, hws, hcw⟩, hcode, hini, hy, hlen, hl⟩, hx1, hx2⟩ := cw
  have hK : vx_Back l R p e below s args y 3 8 (PreOf R mc ms Pc) (PostOf Qc mc ms free) (vx_Post XC mc ms free) := vx_back (bytes := bytes) (maxL := maxL) (ret := none) hM hp.1 hrc hrs hfr hlo hws hcw (fun a' U hW => word_at hW (Or.inl (by first | rfl | simp [Cond.onTables, Cond.keeps, Cond.steady])) hini)
  obtain ⟨hx, hb, hml, ho, -⟩ := S
  have hPc := hp.2
  intro T hT X
  rcases vx_callIN X hx (bytes := bytes) (maxL := maxL) ho hx1 hl hx2 hcode hy hK hg (hsize.trans hml.symm) (a := b) (argsL := As) (rest := rest) (fun sig h => hn.trans (hlen sig h)) hstack hW (by rw [hb]; exact hdg)
    (fun vm₁ hW₁ => ⟨hf.1, hf.2, hPc (T.setVm vm₁) hT hW₁⟩) with ⟨v, vm₁, ⟨U', l2, c2, s2⟩, hW₁, X', ⟨g', mk, t, L, e1, e2, hq, h1, hL, h2, h3⟩, st⟩ | ⟨q, vm₁, ⟨U', l2, c2, s2⟩, hW₁, X', ⟨g', mk, t, L, E, ce, e1, e2, hq, hce, hcv, hcl, h1, hL, h2, h3⟩, st⟩
  · dsimp only [Pt.U, Pt.locs, Pt.cells, Pt.slots] at X' e1 e2 h1 h2 h3 st
    subst h1; subst h2; subst h3
    exact Or.inl ⟨v, (T.setVm vm₁).calling g' mk (Value.ref b :: As).toArray, t, U', L, hT, X', hL, e1, e2, hq, st⟩
  · dsimp only [Pt.U, Pt.locs, Pt.cells, Pt.slots] at X' e1 e2 h1 h2 h3 st hcl
    subst h1; subst h2; subst h3
    exact Or.inr ⟨q, (T.setVm vm₁).calling g' mk (Value.ref b :: As).toArray, t, U', L, E, ce, hT, X', hL, e1, e2, hq, hce, hcv, vx_cls hW₁ hcl, st⟩
end VXID
/-! constructors are called -/
section CTOR
variable {y : Nat} {xt : List ExceptionTableEntry} {d mc ms : Nat} {wp : Nat → Nat → Prop} {z0 : Zz} {X0 : Mm} {QR : Option Av → Zz → Mm → Prop} {QX : Nat → Zz → Mm → Prop} {z : Zz} {pc : Nat} {ls : Lo} {st : List Av} {X : Mm}
theorem v_callI (K : ∀ p, chk y p = true) {v : Int32} {a np y' d' mc' ms' k9 i9 : Nat} {wp' : Nat → Nat → Prop} {As stk : List Av} {z1 : Zz} {QR' : Option Av → Zz → Mm → Prop} {QX' : Nat → Zz → Mm → Prop} (ht : tb y pc = (82, v, a, y', 0, np)) (hC : Ct y' d' mc' ms' wp' z1 X (aR k9 i9 :: As) QR' QX') (hs : stk = rapp (aR k9 i9 :: As) st) (hz : z1.1 = z.1 ∧ z1.2.1 = z.2.1 ∧ z1.2.2.1 = z.2.2.1) (hw : ∀ k i, wp' k i → wp k i) (hlen : As.length = npl.getD y' 0) (hd : Nat.ble (d' + 1) d = true) (hm : (Nat.ble (z.2.2.2.1 + mc') mc && Nat.ble (z.2.2.2.2 + ms') ms) = true) (hst : Nat.ble st.length 4 = true)
    (kk : ∀ (w : Option Av) (z2 : Zz) (X2 : Mm), QR' w z2 X2 → Ag wp' X X2 → V y xt d mc ms wp z0 X0 QR QX (z2.1, z2.2.1, z.2.2.1, z.2.2.2.1 + mc', z.2.2.2.2 + ms') np ls (w.toList ++ st) X2)
    (kx : ∀ (x : Nat) (z2 : Zz) (X2 : Mm), QX' x z2 X2 → Ag wp' X X2 → VX y xt d mc ms wp z0 X0 QR QX (z2.1, z2.2.1, z.2.2.1, z.2.2.2.1 + mc', z.2.2.2.2 + ms') pc ls x X2) : V y xt d mc ms wp z0 X0 QR QX z pc ls stk X := by
  intro l G ad0 p e s m args below meth c0 C ad H locs cells slots la U hl ol os
  obtain ⟨h1, h2, h3⟩ := chk_sp K ht rfl
  have h3 : np = pc + 3 := h3.elim (fun q => by cases q) id
  subst h3
  obtain ⟨hm1, hm2⟩ := Bool.and_eq_true_iff.mp hm
  have hm1 := Nat.le_of_ble_eq_true hm1
  have hm2 := Nat.le_of_ble_eq_true hm2
  have hd := Nat.le_of_ble_eq_true hd
  have hst := Nat.le_of_ble_eq_true hst
  have hsum := cat_sum G ad st
  have hc1 := U.2.2.2.2.2.2.1
  have hc2 := U.2.2.2.2.2.2.2.1
  have hml := ml_ok _ (of_decide_eq_true h2)
  have hyN : y' < NM := hml.1
  obtain ⟨hy3, hI, hnm, hrt⟩ := hml.2.2.2 rfl
  have hmx := mx_ok y' hyN
  subst hs
  obtain ⟨oA, oS⟩ := oks_rapp os
  refine run_ok C U hl ol oS hw hz (vx_runI (Ts := TT) (b := ad k9 i9) (As := As.map (cv G ad)) (rest := st.map (cv G ad)) ⟨C.1, C.2.1, C.2.2.1, C.2.2.2.1, C.2.2.2.2.1⟩ (hC.2 l G ad H.size C.2.2.2.2.2.2.2.1) ⟨callB_of (npl.getD y' 0) C.2.2.2.2.1 (gd_in (wsy_in hy3)) (bytes := byt y') (maxL := mxl y') (ret := none) (ws' := TT) (by unfold wsy hdw; rw [hrt]) rfl rfl (C.2.2.2.2.1 _ (ini_in hyN)) (C.2.2.2.2.1 _ (MLd_in _ (of_decide_eq_true h2))) ⟨(cls_ok y' hyN).2.2.2.1, (cls_ok y' hyN).2.2.2.2, npr_ok y' hyN⟩ ⟨by show d' + 1 ≤ d; omega, by show 8 + (mxl y' + 11) + 40 * d' ≤ 40 * d; omega⟩, hnm, C.2.2.2.2.1 _ (IMd_in _ hI)⟩ ⟨kt_blind, fun W9 hU hW => U.pre C hz oA W9 hU hW⟩ rfl (by rw [List.length_map]; exact hlen) hl.1 (by rw [rapp_eq, List.map_append, List.reverse_cons, List.map_append, List.map_reverse]; simp [cv]) (by show 2 * 0 + _ ≤ 8; omega) h1 ⟨by show cells + mc' ≤ mc; omega, by show slots + ms' ≤ ms; omega⟩) kk kx
theorem v_callIN (K : ∀ p, chk y p = true) {v : Int32} {a np y' d' mc' ms' k9 i9 : Nat} {wp' : Nat → Nat → Prop} {As stk : List Av} {z1 : Zz} {QR' : Option Av → Zz → Mm → Prop} {QX' : Nat → Zz → Mm → Prop} (ht : tb y pc = (82, v, a, y', 1, np)) (hC : Ct y' d' mc' ms' wp' z1 X (aR k9 i9 :: As) QR' QX') (hs : stk = rapp (aR k9 i9 :: As) st) (hz : z1.1 = z.1 ∧ z1.2.1 = z.2.1 ∧ z1.2.2.1 = z.2.2.1) (hw : ∀ k i, wp' k i → wp k i) (hlen : As.length = npl.getD y' 0) (hd : Nat.ble (d' + 1) d = true) (hm : (Nat.ble (z.2.2.2.1 + mc') mc && Nat.ble (z.2.2.2.2 + ms') ms) = true) (hst : Nat.ble st.length 4 = true)
    (kk : ∀ (w : Option Av) (z2 : Zz) (X2 : Mm), QR' w z2 X2 → Ag wp' X X2 → V y xt d mc ms wp z0 X0 QR QX (z2.1, z2.2.1, z.2.2.1, z.2.2.2.1 + mc', z.2.2.2.2 + ms') np ls (w.toList ++ st) X2)
    (kx : ∀ (x : Nat) (z2 : Zz) (X2 : Mm), QX' x z2 X2 → Ag wp' X X2 → VX y xt d mc ms wp z0 X0 QR QX (z2.1, z2.2.1, z.2.2.1, z.2.2.2.1 + mc', z.2.2.2.2 + ms') pc ls x X2) : V y xt d mc ms wp z0 X0 QR QX z pc ls stk X := by
  intro l G ad0 p e s m args below meth c0 C ad H locs cells slots la U hl ol os
  obtain ⟨h1, h2, h3⟩ := chk_sp K ht rfl
  have h3 : np = pc + 3 := h3.elim (fun q => by cases q) id
  subst h3
  obtain ⟨hm1, hm2⟩ := Bool.and_eq_true_iff.mp hm
  have hm1 := Nat.le_of_ble_eq_true hm1
  have hm2 := Nat.le_of_ble_eq_true hm2
  have hd := Nat.le_of_ble_eq_true hd
  have hst := Nat.le_of_ble_eq_true hst
  have hsum := cat_sum G ad st
  have hc1 := U.2.2.2.2.2.2.1
  have hc2 := U.2.2.2.2.2.2.2.1
  have hmn := mn_ok _ (of_decide_eq_true h2)
  obtain ⟨hy3, hI, hnm, hrt⟩ := hmn
  have hy3 : y' < 300 := hy3
  have hyN : y' < NM := Nat.lt_of_lt_of_le hy3 (by decide)
  have hmx := mx_ok y' hyN
  have hnw := C.2.2.2.2.2.2.2.2.2.2.1.2.2.1 _ (of_decide_eq_true h2)
  subst hs
  obtain ⟨oA, oS⟩ := oks_rapp os
  refine run_ok C U hl ol oS hw hz (vx_runIN (host := "BallotBus") (Ts := TT) (b := ad k9 i9) (As := As.map (cv G ad)) (rest := st.map (cv G ad)) ⟨C.1, C.2.1, C.2.2.1, C.2.2.2.1, C.2.2.2.2.1⟩ (hC.2 l G ad H.size C.2.2.2.2.2.2.2.1) ⟨va_cnB (npl.getD y' 0) C.2.2.2.2.1 (gd_in (wsy_in hy3)) (bytes := byt y') (maxL := mxl y') (ret := none) (ws' := TT) (by unfold wsy hdw; rw [hrt]) rfl rfl hnw (C.2.2.2.2.1 _ (ini_in hyN)) ⟨(cls_ok y' hyN).2.2.2.1, (cls_ok y' hyN).2.2.2.2, npr_ok y' hyN⟩ ⟨by show d' + 1 ≤ d; omega, by show 8 + (mxl y' + 11) + 40 * d' ≤ 40 * d; omega⟩, hnm, C.2.2.2.2.1 _ (IMd_in _ hI)⟩ ⟨kt_blind, fun W9 hU hW => U.pre C hz oA W9 hU hW⟩ rfl (by rw [List.length_map]; exact hlen) hl.1 (by rw [rapp_eq, List.map_append, List.reverse_cons, List.map_append, List.map_reverse]; simp [cv]) (by show 2 * 0 + _ ≤ 8; omega) h1 ⟨by show cells + mc' ≤ mc; omega, by show slots + ms' ≤ ms; omega⟩) kk kx
/-- more is counted than was made -/
theorem v_up (u v : Nat) (hu : z.2.2.2.1 ≤ u) (hv : z.2.2.2.2 ≤ v) (kk : V y xt d mc ms wp z0 X0 QR QX (z.1, z.2.1, z.2.2.1, u, v) pc ls st X) : V y xt d mc ms wp z0 X0 QR QX z pc ls st X := by
  intro l G ad0 p e s m args below meth c0 C ad H locs cells slots la U hl ol os
  obtain ⟨hHp, hDf, hold, hnew, hag, hS, hc, hs, hLL, hA⟩ := U
  exact kk l G ad0 p e s m args below meth c0 C ad H locs cells slots la ⟨hHp.cg rfl rfl rfl, hDf.cg rfl rfl, hold, hnew, hag, hS, Nat.le_trans hc hu, Nat.le_trans hs hv, hLL, hA⟩ hl (fun q hq => (ol q hq).cg rfl) (fun w hw => (os w hw).cg rfl)
end CTOR
/-! other references, the same on what is made and within its length -/
theorem Cu.refs2 {G : Gp} {ad0 ad : Nat → Nat → Nat} {wp : Nat → Nat → Prop} {z0 z : Zz} {X0 X : Mm} {s : State} {H : Heap} {locs : List Loc} {cells slots : Nat} (U : Cu G ad0 wp z0 X0 s ad z X H locs cells slots) (c' : Nat → Nat) (R : Nat → Nat → Nat → Option (Nat × Nat)) (hc' : c' = z.1) (hR : ∀ k i j, i < z.1 k → j < aln z k → R k i j = z.2.1 k i j) : Cu G ad0 wp z0 X0 s ad (c', R, z.2.2) X H locs cells slots := by
  subst hc'
  obtain ⟨⟨h1, h2, h3, h4, h5⟩, hdf, hold, hnew, hag, hS, hc, hs, hL, hA⟩ := U
  refine ⟨⟨fun k i hk => cat.ext (z := z) (ad := ad) (X := X) rfl (fun j hj => ⟨rfl, rfl, rfl, by show adq ad (R k i j) = adq ad (z.2.1 k i j); rw [hR k i j hk hj]⟩) (h1 k i hk), h2, h3, h4, fun k i j q hk hj hq => ?_⟩, hdf, hold, hnew, hag, hS, hc, hs, hL, hA⟩
  have hq : R k i j = some q := hq
  have hj : j < aln z k := hj
  rw [hR k i j hk hj] at hq
  exact h5 k i j q hk hj hq
/-- what lies in the heap becomes a cell of the world -/
theorem Cu.adopt {G : Gp} {ad0 ad : Nat → Nat → Nat} {wp : Nat → Nat → Prop} {z0 z : Zz} {X0 X : Mm} {s : State} {H : Heap} {locs : List Loc} {cells slots : Nat} (U : Cu G ad0 wp z0 X0 s ad z X H locs cells slots) (k a : Nat) (hne : z.1 ≠ nF) (ha : s.heap.size ≤ a) (hG : G.2.2.2.1 ≤ a) (hf : ∀ a' b', b' < z.1 a' → ad a' b' ≠ a)
    (hR : ∀ j q, j < aln z k → z.2.1 k (z.1 k) j = some q → q.2 < z.1 q.1) (h6 : Nat.beq k 68 = false) (e : va_at G.1 vcl (a, cel G (adN ad z k a) ((fun b => if b = k then z.1 k + 1 else z.1 b), z.2) X k (z.1 k)) H) :
    Cu G ad0 wp z0 X0 s (adN ad z k a) ((fun b => if b = k then z.1 k + 1 else z.1 b), z.2) X H locs cells slots := by
  obtain ⟨⟨h1, h2, h3, h4, h5⟩, hdf, hold, hnew, hag, hS, hc, hs, hL, hA⟩ := U
  have hD := hdf.resolve_left hne
  have hlt : ∀ a b, b < (if a = k then z.1 k + 1 else z.1 a) ↔ b < z.1 a ∨ (a = k ∧ b = z.1 k) := fun a b => zN_lt (z := z) (k := k) (n := 0)
  refine ⟨⟨fun a1 b hb => ?_, fun a1 b a' b' hb hb' he => ?_, fun a1 b hb ha1 => ?_, h4, fun a1 b j q hb hj hq => ?_⟩, Or.inr fun a1 b hb j => hD a1 b ?_ j, fun a1 b hb => ?_, fun a1 b hb1 hb2 => ?_, hag, hS, hc, hs, hL, hA⟩
  · rcases (hlt a1 b).mp hb with q | ⟨rfl, rfl⟩
    · rw [adN_old q]
      refine cat.ext (z := z) (ad := ad) (X := X) rfl (fun j hj => ⟨rfl, rfl, rfl, ?_⟩) (h1 a1 b q)
      show adq (adN ad z k a) (z.2.1 a1 b j) = adq ad (z.2.1 a1 b j)
      cases hr : z.2.1 a1 b j with
      | none => rfl
      | some r => exact congrArg some (adN_old (h5 a1 b j r q hj hr))
    · rw [adN_new]; exact .of h6 e
  · rcases (hlt a1 b).mp hb with q | ⟨rfl, rfl⟩
    · rcases (hlt a' b').mp hb' with q' | ⟨rfl, rfl⟩
      · rw [adN_old q, adN_old q'] at he
        exact h2 a1 b a' b' q q' he
      · rw [adN_old q, adN_new] at he
        exact absurd he (hf a1 b q)
    · rcases (hlt a' b').mp hb' with q' | ⟨rfl, rfl⟩
      · rw [adN_new, adN_old q'] at he
        exact absurd he.symm (hf a' b' q')
      · exact ⟨rfl, rfl⟩
  · rcases (hlt a1 b).mp hb with q | ⟨rfl, rfl⟩
    · rw [adN_old q]; exact h3 a1 b q ha1
    · rw [adN_new]; exact hG
  · rcases (hlt a1 b).mp hb with g | ⟨rfl, rfl⟩
    · exact (hlt _ _).mpr (Or.inl (h5 a1 b j q g hj hq))
    · exact (hlt _ _).mpr (Or.inl (hR j q hj hq))
  · exact Nat.le_of_not_lt fun q => absurd ((hlt a1 b).mpr (Or.inl q)) (Nat.not_lt.mpr hb)
  · obtain ⟨g1, g2⟩ := hold a1 b hb
    rw [adN_old g2]
    exact ⟨g1, (hlt _ _).mpr (Or.inl g2)⟩
  · rcases (hlt a1 b).mp hb2 with q | ⟨rfl, rfl⟩
    · rw [adN_old q]; exact hnew a1 b hb1 q
    · rw [adN_new]; exact ha
/-- the heap grows -/
theorem Cu.ext {G : Gp} {ad0 ad : Nat → Nat → Nat} {wp : Nat → Nat → Prop} {z0 z : Zz} {X0 X : Mm} {s : State} {H H1 : Heap} {locs : List Loc} {cells slots : Nat} (U : Cu G ad0 wp z0 X0 s ad z X H locs cells slots) (u v : Nat) (hz1 : H.size ≤ H1.size) (ho : ∀ q : Nat, q < H.size → H1[q]? = H[q]?) :
    Cu G ad0 wp z0 X0 s ad (z.1, z.2.1, z.2.2.1, z.2.2.2.1 + u, z.2.2.2.2 + v) X H1 locs (cells + u) (slots + v) := by
  obtain ⟨⟨h1, h2, h3, h4, h5⟩, hdf, hold, hnew, hag, hS, hc, hs, hL, hA⟩ := U
  refine ⟨⟨fun a b hb => cat.ext (z := z) (ad := ad) (X := X) rfl (fun j _ => ⟨rfl, rfl, rfl, rfl⟩) ((h1 a b hb).kept (ho _ (h1 a b hb).lt)), h2, h3, Nat.le_trans h4 hz1, h5⟩, hdf.cg rfl rfl, hold, hnew, hag, ⟨Nat.le_trans hS.1 hz1, fun x g1 g2 => (ho x (Nat.lt_of_lt_of_le g1 hS.1)).trans (hS.2.1 x g1 g2), hS.2.2⟩, Nat.add_le_add_right hc u, Nat.add_le_add_right hs v, hL, hA⟩
/-- rows of ints become cells, one behind another -/
def rwC (c : Nat → Nat) : List Nat → Nat → Nat
  | [] => c
  | k :: ks => rwC (fun b => if b = k then c k + 1 else c b) ks
/-- which cell the row j becomes -/
def rwI (c : Nat → Nat) : List Nat → Nat → Option (Nat × Nat)
  | [], _ => none
  | k :: _, 0 => some (k, c k)
  | k :: ks, j + 1 => rwI (fun b => if b = k then c k + 1 else c b) ks j
theorem rwC_66 {c : Nat → Nat} : ∀ {ks : List Nat}, ks.all (fun k => Nat.beq (shp k).1 1 && (Nat.beq (shp k).2.1 0 && !(Nat.beq k 66))) = true → rwC c ks 66 = c 66 := by
  intro ks
  induction ks generalizing c with
  | nil => intro _; rfl
  | cons k ks ih =>
    intro h
    rw [List.all_cons, Bool.and_eq_true_iff] at h
    have h66 : ¬ 66 = k := fun e => by subst e; exact absurd h.1 (by decide)
    show rwC (fun b => if b = k then c k + 1 else c b) ks 66 = c 66
    rw [ih h.2, if_neg h66]
theorem rwC_ne {a : Nat} : ∀ {ks : List Nat} {c : Nat → Nat}, a ∉ ks → rwC c ks a = c a
  | [], _, _ => rfl
  | k :: ks, c, h => by
    have h1 : ¬ a = k := fun e => h (by rw [e]; exact List.mem_cons_self)
    show rwC (fun b => if b = k then c k + 1 else c b) ks a = c a
    rw [rwC_ne (fun q => h (List.mem_cons_of_mem _ q)), if_neg h1]
theorem rwC_up {a b : Nat} : ∀ {ks : List Nat} {c : Nat → Nat}, b < c a → b < rwC c ks a
  | [], _, h => h
  | k :: ks, c, h => by
    refine rwC_up (c := fun b => if b = k then c k + 1 else c b) ?_
    show b < (if a = k then c k + 1 else c a)
    by_cases e : a = k
    · subst e
      rw [if_pos rfl]
      omega
    · rw [if_neg e]
      exact h
theorem rwC_app {k : Nat} : ∀ {ks : List Nat} {c : Nat → Nat}, rwC c (ks ++ [k]) = fun b => if b = k then rwC c ks k + 1 else rwC c ks b
  | [], _ => rfl
  | k2 :: ks, c => rwC_app (ks := ks) (c := fun b => if b = k2 then c k2 + 1 else c b)
theorem Cu.rows {G : Gp} {ad0 : Nat → Nat → Nat} {wp : Nat → Nat → Prop} {z0 : Zz} {X0 X : Mm} {s : State} {H : Heap} {locs : List Loc} {cells slots h0 m : Nat} {R : Nat → Nat → Nat → Option (Nat × Nat)} {w : Nat × Nat × Nat} : ∀ (ks : List Nat) (base : Nat) (ad : Nat → Nat → Nat) (c : Nat → Nat), Cu G ad0 wp z0 X0 s ad (c, R, w) X H locs cells slots → c 66 = 0 → (∀ k ∈ ks, (shp k = (1, 0, m) ∧ Nat.beq k 68 = false ∧ k ≠ 66) ∧ ∀ i j, R k i j = none) → s.heap.size ≤ base → G.2.2.2.1 ≤ base → h0 < base →
    (∀ a b, b < c a → ad a b < base ∧ ad a b ≠ h0) → (∀ j, j < ks.length → H[base + j]? = some (arrV (G.2.1 0) m (fun _ => Value.int 0))) →
    ∃ ad', Cu G ad0 wp z0 X0 s ad' (rwC c ks, R, w) X H locs cells slots ∧ (∀ a b, b < c a → ad' a b = ad a b) ∧ (∀ a b, b < rwC c ks a → ad' a b ≠ h0) ∧ ∀ j, j < ks.length → ∃ q, rwI c ks j = some q ∧ q.2 < rwC c ks q.1 ∧ ad' q.1 q.2 = base + j
  | [], base, ad, c, U, _, _, _, _, _, hfr, _ => ⟨ad, U, fun _ _ _ => rfl, fun a b h => (hfr a b h).2, fun j hj => absurd hj (Nat.not_lt_zero _)⟩
  | k :: ks, base, ad, c, U, h66, hks, hb1, hb2, hb3, hfr, hrow => by
    obtain ⟨⟨hk1, hk2, hk3⟩, hk4⟩ := hks k List.mem_cons_self
    have hne : c ≠ nF := fun e => by rw [e] at h66; exact absurd h66 (by decide)
    have hD := U.2.1.resolve_left hne
    have U2 := U.adopt k base hne hb1 hb2 (fun a' b' h => Nat.ne_of_lt (hfr a' b' h).1) (fun j q _ hq => by
      have hq : R k (c k) j = some q := hq
      rw [hk4] at hq
      cases hq) hk2 (by
      have hal : aln ((fun b => if b = k then c k + 1 else c b), R, w) k = m := by unfold aln; rw [hk2, hk1]; rfl
      rw [cel_a hk1, hal]
      show H[base]? = some (arrV (G.2.1 0) m (fun j => Value.int (gI X k (c k) j)))
      have h1 := hrow 0 (Nat.succ_pos _)
      rw [Nat.add_zero] at h1
      rw [h1]
      refine congrArg some (arrV_cg (fun j hj => ?_))
      rw [(hD k (c k) (Nat.le_refl _) j).1])
    have hlt : ∀ a b, b < (if a = k then c k + 1 else c a) ↔ b < c a ∨ (a = k ∧ b = c k) := fun a b => zN_lt (z := (c, R, w)) (k := k) (n := 0)
    obtain ⟨ad', U3, e1, e2, e3⟩ := Cu.rows (h0 := h0) (m := m) ks (base + 1) _ _ U2 (by rw [if_neg (Ne.symm hk3)]; exact h66) (fun k' hk' => hks k' (List.mem_cons_of_mem _ hk')) (by omega) (by omega) (by omega) (fun a b hab => by
      rcases (hlt a b).mp hab with q | ⟨rfl, rfl⟩
      · rw [adN_old (z := (c, R, w)) q]
        obtain ⟨f1, f2⟩ := hfr a b q
        exact ⟨by omega, f2⟩
      · have e9 : adN ad (c, R, w) a base a (c a) = base := adN_new (z := (c, R, w))
        rw [e9]
        exact ⟨by omega, by omega⟩) (fun j hj => by
      have h1 := hrow (j + 1) (Nat.succ_lt_succ hj)
      rw [show base + 1 + j = base + (j + 1) by omega]
      exact h1)
    refine ⟨ad', U3, fun a b hab => ?_, e2, fun j hj => ?_⟩
    · rw [e1 a b ((hlt a b).mpr (Or.inl hab))]
      exact adN_old (z := (c, R, w)) hab
    · match j, hj with
      | 0, _ =>
        refine ⟨(k, c k), rfl, rwC_up (ks := ks) (c := fun b => if b = k then c k + 1 else c b) ((hlt k (c k)).mpr (Or.inr ⟨rfl, rfl⟩)), ?_⟩
        show ad' k (c k) = base + 0
        rw [e1 k (c k) ((hlt k (c k)).mpr (Or.inr ⟨rfl, rfl⟩))]
        exact adN_new (z := (c, R, w))
      | j + 1, hj =>
        obtain ⟨q, q1, q2, q3⟩ := e3 j (Nat.lt_of_succ_lt_succ hj)
        exact ⟨q, q1, q2, q3.trans (by omega)⟩
theorem mo_outer (c : ClassId) (N h0 : Nat) : ∀ i : Nat, Jvm.Free.Multi.outerC c N h0 i = arrV c N (fun j => va_rf (if j < i then some (h0 + 1 + j) else none))
  | 0 => by
    show ({ cls := c, slots := Array.replicate N .null, vm := .none } : Cell) = _
    rw [arrV_new]
    refine congrArg (arrV c N) (funext fun j => ?_)
    simp [va_rf]
  | i + 1 => by
    show (Jvm.Free.Multi.outerC c N h0 i).setSlot i (.ref (h0 + 1 + i)) = _
    rw [mo_outer c N h0 i, arrV_store]
    refine congrArg (arrV c N) (funext fun j => ?_)
    by_cases e : j = i
    · subst e
      simp [updV, va_rf]
    · by_cases h : j < i
      · simp [updV, e, h, Nat.lt_succ_of_lt h]
      · simp [updV, e, h, show ¬ j < i + 1 by omega]
section MNA
variable {y : Nat} {xt : List ExceptionTableEntry} {d mc ms : Nat} {wp : Nat → Nat → Prop} {z0 : Zz} {X0 : Mm} {QR : Option Av → Zz → Mm → Prop} {QX : Nat → Zz → Mm → Prop} {pc : Nat} {ls : Lo} {st : List Av} {X : Mm}
theorem v_mna (K : ∀ p, chk y p = true) {v9 x x2 : Int32} {a b c9 np kO n m L u v : Nat} {c : Nat → Nat} {R : Nat → Nat → Nat → Option (Nat × Nat)} (ks : List Nat) (ht : tb y pc = (93, v9, a, b, c9, np)) (hk : shp kO = (1, 4, n)) (hkO : Nat.beq kO 68 = false) (hkl : ks.length = n) (hcl : Cond.classLink (RN (cid y)) a "[[I" ∈ TT) (hx : x = nI n) (hx2 : x2 = nI m) (hm : ∀ k ∈ ks, (shp k = (1, 0, m) ∧ Nat.beq k 68 = false ∧ k ≠ 66) ∧ ∀ i j, R k i j = none) (hnm : (Nat.ble n 1000 && Nat.ble m 1000) = true) (h66 : c 66 = 0) (hO : kO ∉ ks)
    (hr : ∀ j, j < n → R kO (c kO) j = rwI c ks j) (hroom : (Nat.ble (u + (1 + n)) mc && Nat.ble (v + (n + n * m)) ms) = true)
    (kk : V y xt d mc ms wp z0 X0 QR QX (rwC c (ks ++ [kO]), R, L, u + (1 + n), v + (n + n * m)) np ls (aR kO (c kO) :: st) X) : V y xt d mc ms wp z0 X0 QR QX (c, R, L, u, v) pc ls (aI x2 :: aI x :: st) X := by
  intro l G ad0 p e s mi args below meth c0 C ad H locs cells slots la U hl ol os
  obtain ⟨h1, -, h3⟩ := chk_sp K ht rfl
  have h3 : np = pc + 4 := h3.elim (fun q => by cases q) id
  subst h3
  subst hx
  subst hx2
  obtain ⟨hr1, hr2⟩ := Bool.and_eq_true_iff.mp hroom
  have hr1 := Nat.le_of_ble_eq_true hr1
  have hr2 := Nat.le_of_ble_eq_true hr2
  obtain ⟨hn1, hn2⟩ := Bool.and_eq_true_iff.mp hnm
  have hn1 := Nat.le_of_ble_eq_true hn1
  have hn2 := Nat.le_of_ble_eq_true hn2
  have hc1 := U.2.2.2.2.2.2.1
  have hc2 := U.2.2.2.2.2.2.2.1
  have hc1 : cells ≤ u := hc1
  have hc2 : slots ≤ v := hc2
  have hts := C.2.2.2.2.1
  have hKt := C.2.2.2.2.2.2.2.2.2.2.1
  have hK := hKt.1
  have g1 : s.vm.findClass "[[I" = some (G.2.1 4) := (hK.2 4 _ rfl).2
  have g0 : s.vm.findClass "[I" = some (G.2.1 0) := (hK.2 0 _ rfl).2
  have en : (nI n).toNatClampNeg = n := nI_clamp (by omega)
  have em : (nI m).toNatClampNeg = m := nI_clamp (by omega)
  intro T hT Xs
  obtain ⟨vm₁, cA, comp, -, fA, fC, -, -, X', step⟩ := Xs.multianewarray2F C.1 (ty := .int) C.2.2.2.1 (hts _ hcl) hKt.2.2.2.2.2.2.1.2 (hts _ fx_acI) (g := F0 mi pc la (.int (nI m) :: .int (nI n) :: st.map (cv G ad))) rfl (by rw [C.2.1]; exact h1) rfl (nI_pos (by omega)) (nI_pos (by omega)) (by rw [en]; omega) (by rw [em]; simp only [componentBytes]; omega) (by rw [em]; omega) rfl rfl (by rw [en]; show cells + (1 + n) ≤ mc; omega) (by rw [en, em]; show slots + (n + n * m) ≤ ms; omega)
  rw [en, em] at X' step
  have hcA : cA = G.2.1 4 := Option.some.inj (fA.symm.trans g1)
  have hcI : comp = G.2.1 0 := Option.some.inj (fC.symm.trans g0)
  subst hcA
  subst hcI
  generalize hF : Jvm.Free.Multi.fill (T.setVm vm₁) (G.2.1 4) (G.2.1 0) n m (defaultValue .int) n = F at X' step
  have hTh : (T.setVm vm₁).heap = H := hT
  obtain ⟨f1, f2, -, -⟩ := Jvm.Free.Multi.fill_facts (T.setVm vm₁) (G.2.1 4) (G.2.1 0) n m (defaultValue .int) n
  rw [hF, hTh] at f1 f2
  have hold : ∀ x : Nat, x < H.size → F.heap[x]? = H[x]? := fun x hx => by
    have := Jvm.Free.Multi.fill_old (T.setVm vm₁) (G.2.1 4) (G.2.1 0) n m (defaultValue .int) (a := x) (by rw [hTh]; exact hx) n
    rw [hF, hTh] at this
    exact this
  have hrow : ∀ j : Nat, j < ks.length → F.heap[H.size + 1 + j]? = some (arrV (G.2.1 0) m (fun _ => Value.int 0)) := fun j hj => by
    have := Jvm.Free.Multi.fill_inner (T.setVm vm₁) (G.2.1 4) (G.2.1 0) n m (defaultValue .int) n j (by rw [← hkl]; exact hj)
    rw [hF, hTh] at this
    rw [this]
    exact congrArg some (arrV_new _ _ _)
  rw [mo_outer] at f2
  have hsz := U.2.2.2.2.2.1.1
  have hG := U.1.2.2.2.1
  have U1 := U.ext (H1 := F.heap) (1 + n) (n + n * m) (by omega) hold
  have hlt : ∀ a b, b < c a → ad a b < H.size := fun a b hb => (U.1.1 a b hb).lt
  obtain ⟨ad2, U2, e1, e2, e3⟩ := Cu.rows ks (H.size + 1) ad c U1 h66 hm (by omega) (by omega) (Nat.lt_succ_self H.size) (fun a b hb => by have := hlt a b hb; exact ⟨by omega, by omega⟩) hrow
  have hcO : rwC c ks kO = c kO := rwC_ne hO
  have hne : rwC c ks ≠ nF := fun q => by
    have h9 : rwC c ks 66 = c 66 := rwC_ne (fun h => (hm 66 h).1.2.2 rfl)
    rw [q, h66] at h9
    exact absurd h9 (by decide)
  have hal : ∀ c' w, aln (c', R, w) kO = n := fun c' w => by unfold aln; rw [hkO, hk]; rfl
  have U3 := U2.adopt kO H.size hne hsz hG e2 (fun j q hj hq => by
    have hj : j < n := by have h8 := hj; rw [hal] at h8; exact h8
    have hq : R kO (rwC c ks kO) j = some q := hq
    rw [hcO, hr j hj] at hq
    obtain ⟨q', q1, q2, -⟩ := e3 j (by rw [hkl]; exact hj)
    have e9 : some q' = some q := q1.symm.trans hq
    cases e9
    exact q2) hkO (by
    rw [cel_a hk, hal]
    show F.heap[H.size]? = some (arrV (G.2.1 4) n (fun j => va_rf (adq (adN ad2 (rwC c ks, R, L, u + (1 + n), v + (n + n * m)) kO H.size) (R kO (rwC c ks kO) j))))
    rw [f2]
    refine congrArg some (arrV_cg (fun j hj => ?_))
    rw [if_pos hj, hcO, hr j hj]
    obtain ⟨q', q1, q2, q3⟩ := e3 j (by rw [hkl]; exact hj)
    rw [q1]
    show va_rf (some (H.size + 1 + j)) = va_rf (some (adN ad2 (rwC c ks, R, L, u + (1 + n), v + (n + n * m)) kO H.size q'.1 q'.2))
    rw [adN_old (z := (rwC c ks, R, L, u + (1 + n), v + (n + n * m))) q2, q3])
  have he : ∀ a b, b < c a → adN ad2 (rwC c ks, R, L, u + (1 + n), v + (n + n * m)) kO H.size a b = ad a b := fun a b h => by
    rw [adN_old (z := (rwC c ks, R, L, u + (1 + n), v + (n + n * m))) (rwC_up h)]
    exact e1 a b h
  have hup : ∀ a b, b < c a → b < rwC c (ks ++ [kO]) a := fun a b h => rwC_up h
  have happ : (fun b => if b = kO then rwC c ks kO + 1 else rwC c ks b) = rwC c (ks ++ [kO]) := rwC_app.symm
  have U4 : Cu G ad0 wp z0 X0 s (adN ad2 (rwC c ks, R, L, u + (1 + n), v + (n + n * m)) kO H.size) (rwC c (ks ++ [kO]), R, L, u + (1 + n), v + (n + n * m)) X F.heap locs (cells + (1 + n)) (slots + (n + n * m)) := by
    rw [← happ]
    exact U3
  have os := oks_t (oks_t os)
  have := kk l G ad0 p e s mi args below meth c0 C _ F.heap locs (cells + (1 + n)) (slots + (n + n * m)) la U4 (by rw [cvl_ad ol he]; exact hl) (fun q hq => (ol q hq).up hup) (oks_c (by
    show c kO < rwC c (ks ++ [kO]) kO
    rw [rwC_app]
    show c kO < if kO = kO then rwC c ks kO + 1 else rwC c ks kO
    rw [if_pos rfl, hcO]
    exact Nat.lt_succ_self _) (fun v hv => (os v hv).up hup))
  rw [List.map_cons, cvs_ad os he] at this
  have e9 : cv G (adN ad2 (rwC c ks, R, L, u + (1 + n), v + (n + n * m)) kO H.size) (aR kO (c kO)) = .ref H.size := by
    rw [← hcO]
    exact congrArg Value.ref (adN_new (z := (rwC c ks, R, L, u + (1 + n), v + (n + n * m))))
  rw [e9] at this
  obtain ⟨t, a1, b1⟩ := this F rfl (by
    have e8 : cells + 1 + n = cells + (1 + n) := by omega
    have e7 : slots + n + n * m = slots + (n + n * m) := by omega
    rw [e8, e7] at X'
    exact X')
  refine ⟨t, step t ?_, b1⟩
  have e6 : T.heap.size = H.size := by rw [hT]
  rw [e6]
  exact a1
end MNA
