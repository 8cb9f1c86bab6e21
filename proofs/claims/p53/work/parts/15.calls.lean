/-! calls and entries (printed by wip/whole/gen15.py) -/
def npl : List Nat := [0, 1, 1, 0, 0, 0, 1, 2, 0, 0, 1, 4, 0, 1, 1, 1, 0, 1, 1, 1, 1, 1, 0, 2, 0, 2, 1, 2, 2, 0, 2, 3, 2, 0, 0, 1, 5, 1, 1, 1, 1, 0, 2, 1, 2, 3, 0, 0, 0, 0, 3, 0, 0, 0, 2, 3, 1, 1, 1, 1, 1, 0, 0, 0, 0, 0, 0, 0, 3, 2, 1, 1, 1, 1, 1, 1, 1, 2, 2, 2, 1, 3, 1, 0, 0, 2, 1, 1, 1, 0, 0, 0, 1, 1, 0, 0, 0, 1, 0, 0, 0, 0, 0, 0, 5, 1, 0, 0, 0, 1, 0, 2, 2, 0, 1, 2, 2, 0, 0, 1, 0, 0, 1, 0, 2, 0, 0, 0, 0, 0, 0, 0, 0, 0, 1, 3, 0, 1, 0, 1, 1, 2, 0, 0, 2, 0, 1, 0, 0, 0, 0, 0, 0, 0, 1, 1, 1, 2, 1, 3, 0, 0, 0, 0, 0, 0, 0, 0, 0, 0, 0, 0, 0, 0, 0, 0, 0, 0, 0, 0, 2, 4, 2, 2, 1, 3, 3, 5, 3, 0, 0, 0, 0, 0, 0, 0, 0, 0, 0, 0, 0, 1, 1, 1, 1, 1, 1, 1, 1, 1, 3, 2, 0, 1, 2, 1, 1, 3, 0, 1, 2, 0, 0, 0, 3, 3, 2, 0, 0, 0, 1, 2, 2, 0, 3, 0, 0, 0, 0, 0, 0, 0, 0, 0, 0, 0, 0, 0, 0, 0, 0, 0, 0, 0, 0, 0, 0, 0, 0, 0, 0, 0, 0, 0, 0, 0, 0, 0, 0, 0, 0, 0, 0, 0, 0, 0, 0, 0, 0, 0, 0, 0, 0, 0, 0, 0, 0, 0, 0, 0, 0, 0, 0, 0, 0, 0, 0, 0, 0, 0, 1]
theorem npr_ok : ∀ y, y < NM → (parseMethodDescriptor (nmy y).desc).map (fun d => d.parameters.length) = some (npl.getD y 0) := by decide +kernel
theorem mx_ok : ∀ y, y < NM → mxl y ≤ 21 := by decide +kernel
theorem cd_lt : ∀ y, y < 300 → y ∈ CDd := by decide +kernel
theorem ml_ok : ∀ e ∈ MLd, e.2.2.1 < NM ∧ (e.2.2.2 = 0 → e.2.2.1 ∈ STd) ∧ (e.2.2.2 = 1 → e.2.2.1 < 300 ∧ e.2.2.1 ∈ IMd ∧ e.2.2.1 ∈ SLd) ∧ (e.2.2.2 = 2 → e.2.2.1 < 300 ∧ e.2.2.1 ∈ IMd ∧ (nmy e.2.2.1).name = "<init>" ∧ rtt e.2.2.1 = none) := by decide +kernel
theorem mn_ok : ∀ e ∈ MNd, e.2.2 < 300 ∧ e.2.2 ∈ IMd ∧ (nmy e.2.2).name = "<init>" ∧ rtt e.2.2 = none := by decide +kernel
theorem iz_ok : ∀ c, c < 21 → c ∈ IZd := by decide +kernel
theorem ini_in {y : Nat} (hy : y < NM) : Cond.initialized (nmy y).cls ∈ TT := by
  obtain ⟨h1, -, h3, -⟩ := cls_ok y hy
  rw [h1]
  exact IZd_in _ (iz_ok _ h3)
theorem hdw_in {y : Nat} (hy : y < 300) : hdw y ∈ TT := CDd_in _ (cd_lt y hy)
theorem wsy_in {y : Nat} (hy : y < 300) : ∀ w ∈ wsy y, w ∈ TT := TT_all (hdw_in hy)
theorem gd_in {ws : List Cond} (h : ∀ w ∈ ws, w ∈ TT) : GoodIn TT ws := fun w hw => ⟨h w hw, good_of_word (List.mem_filter.mp (h w hw)).2⟩
def wid : List Av → Nat
  | [] => 0
  | v :: vs => cond (cat2 v) 2 1 + wid vs
def lar : Nat → List Av → Lo
  | _, [] => []
  | i, v :: vs => (i, v) :: lar (cond (cat2 v) (i + 2) (i + 1)) vs
def rapp : List Av → List Av → List Av
  | [], st => st
  | a :: as, st => rapp as (a :: st)
theorem rapp_eq : ∀ (As st : List Av), rapp As st = As.reverse ++ st
  | [], st => rfl
  | a :: as, st => by
    show rapp as (a :: st) = _
    rw [rapp_eq as]
    simp
theorem wid_len (G : Gp) (ad : Nat → Nat → Nat) : ∀ As : List Av, (lg_sl (As.map (cv G ad))).length = wid As
  | [] => rfl
  | v :: vs => by
    have h := wid_len G ad vs
    unfold lg_sl at h ⊢
    rw [List.map_cons, List.flatMap_cons, List.length_append, h]
    cases hc : cat2 v with
    | true => rw [if_pos ((cat_cv G ad v).mpr hc)]; simp [wid, hc]
    | false => rw [if_neg (fun q => by rw [(cat_cv G ad v).mp q] at hc; cases hc)]; simp [wid, hc]
theorem lar_eq (G : Gp) (ad : Nat → Nat → Nat) : ∀ (As : List Av) (i : Nat), lv_args i (As.map (cv G ad)) = (lar i As).map (cvq G ad)
  | [], i => rfl
  | v :: vs, i => by
    show (i, cv G ad v) :: lv_args (if (cv G ad v).category = 2 then i + 2 else i + 1) (vs.map (cv G ad)) = _
    cases hc : cat2 v with
    | true => rw [if_pos ((cat_cv G ad v).mpr hc), lar_eq G ad vs]; simp only [lar, hc, cond_true, List.map_cons]; rfl
    | false => rw [if_neg (fun q => by rw [(cat_cv G ad v).mp q] at hc; cases hc), lar_eq G ad vs]; simp only [lar, hc, cond_false, List.map_cons]; rfl
theorem okl_lar {z : Zz} : ∀ {As : List Av} (i : Nat), oks z As → okl z (lar i As)
  | [], _, _ => fun q hq => by cases hq
  | v :: vs, i, h => fun q hq => by
    rcases List.mem_cons.mp hq with e | e
    · rw [e]; exact oks_h h
    · exact okl_lar _ (oks_t h) q e
theorem Hp.cg {G : Gp} {ad : Nat → Nat → Nat} {z z' : Zz} {X : Mm} {H : Heap} (h1 : z'.1 = z.1) (h2 : z'.2.1 = z.2.1) (h3 : z'.2.2.1 = z.2.2.1) (h : Hp G ad z X H) : Hp G ad z' X H := by
  obtain ⟨a, b, c, d, e⟩ := z
  obtain ⟨a', b', c', d', e'⟩ := z'
  simp only at h1 h2 h3
  subst h1; subst h2; subst h3
  exact h
theorem Df.cg {z z' : Zz} {X : Mm} (h1 : z'.1 = z.1) (h2 : z'.2.1 = z.2.1) (h : Df z X) : Df z' X := by
  unfold Df
  rw [h1]
  exact h
theorem okv.cg {z z' : Zz} {v : Av} (h1 : z'.1 = z.1) (h : okv z v) : okv z' v := by
  rcases v with v | v | v | v | v | v | v <;> first | trivial | exact h | (show v.2 < z'.1 v.1; rw [h1]; exact h)
theorem okv.up {z z' : Zz} {v : Av} (h1 : ∀ k i, i < z.1 k → i < z'.1 k) (h : okv z v) : okv z' v := by
  rcases v with v | v | v | v | v | v | v <;> first | trivial | exact h | exact h1 _ _ h
theorem cv_ad {G : Gp} {ad ad' : Nat → Nat → Nat} {z : Zz} {v : Av} (h : okv z v) (he : ∀ k i, i < z.1 k → ad' k i = ad k i) : cv G ad' v = cv G ad v := by
  rcases v with v | v | v | v | v | v | v <;> first | rfl | exact congrArg Value.ref (he _ _ h)
theorem cvs_ad {G : Gp} {ad ad' : Nat → Nat → Nat} {z : Zz} {st : List Av} (h : oks z st) (he : ∀ k i, i < z.1 k → ad' k i = ad k i) : st.map (cv G ad') = st.map (cv G ad) :=
  List.map_congr_left fun v hv => cv_ad (h v hv) he
theorem cvl_ad {G : Gp} {ad ad' : Nat → Nat → Nat} {z : Zz} {ls : Lo} (h : okl z ls) (he : ∀ k i, i < z.1 k → ad' k i = ad k i) : ls.map (cvq G ad') = ls.map (cvq G ad) :=
  List.map_congr_left fun q hq => by show (q.1, cv G ad' q.2) = (q.1, cv G ad q.2); rw [cv_ad (h q hq) he]
theorem kt_blind {G : Gp} {ad : Nat → Nat → Nat} {z : Zz} {X : Mm} {sz : Nat} {As : List Av} : FrameBlind (Pcc G ad z X sz As) := fun a U g mk h =>
  ⟨h.1, Kt.warm (U := U.calling g mk a) (State.WarmedH.refl U) h.2.1, Kh.moved (u := U) (U := U.calling g mk a) (Vm.Alike.refl U.vm) h.2.2.1, h.2.2.2.1, h.2.2.2.2.1, h.2.2.2.2.2.1, h.2.2.2.2.2.2⟩
section CALLS
variable {y : Nat} {xt : List ExceptionTableEntry} {d mc ms : Nat} {wp : Nat → Nat → Prop} {z0 : Zz} {X0 : Mm} {QR : Option Av → Zz → Mm → Prop} {QX : Nat → Zz → Mm → Prop} {z : Zz} {pc : Nat} {ls : Lo} {st : List Av} {X : Mm}
/-- a method's entry -/
theorem Ct_of {As : List Av} {ls : Lo} (hy : y < 300) (hwp : ∀ i, ¬ wp 68 i) (hls : lar 0 As = ls) (hwid : Nat.ble (wid As) (mxl y) = true) (h : V y [] d mc ms wp z X QR QX (z.1, z.2.1, z.2.2.1, 0, 0) 0 ls [] X) : Ct y d mc ms wp z X As QR QX := by
  have hyN : y < NM := Nat.lt_of_lt_of_le hy (by decide)
  refine ⟨hwp, fun l G ad sz hst => vx_ofW (cc := byt y) (maxL := mxl y) (ret := rtt y) (cls_ok y hyN).2.1 rfl (fun p e s m args below meth c s₁ B hml ht hv => ?_)⟩
  obtain ⟨hargs, hKt, hKh, hHp, hDf, hok, hsz⟩ := hv
  subst hsz
  have hts := atoms_spec (ws := wsy y) B.pre
  have hl := lv_entry (As.map (cv G ad)) (n := mxl y) (by rw [wid_len]; exact Nat.le_of_ble_eq_true hwid)
  rw [lar_eq, hls] at hl
  have hown := findClass_of_methodNamed B.named
  rw [(cls_ok y hyN).1] at hown
  have hA : ∀ q, Afr ad z wp s.heap.size q → A0 G q := fun q hq => by
    rcases hq with ⟨k, i, h1, h2, rfl⟩ | h1
    · exact hHp.2.2.1 k i h2 (fun e => hwp i (by rw [e] at h1; exact h1))
    · exact Nat.le_trans hHp.2.2.2.1 h1
  rw [hargs, lg_entry_eq]
  rw [hargs] at B hts
  exact h l G ad p e s m _ below meth c ⟨B.exec, B.bytes, hml, hown, fun w hw => hts w (List.mem_cons_of_mem _ hw), B.notSynchronized, B.returns, hst, List.eq_nil_iff_forall_not_mem.mpr (fun x hx => ht x hx), fun hi => (name_of_methodNamed B.named B.method).1.trans (of_decide_eq_true hi), hKt, hKh⟩ ad s.heap [] 0 0 _
    ⟨hHp.cg rfl rfl rfl, hDf.cg rfl rfl, fun k i hk => ⟨rfl, hk⟩, fun k i h1 h2 => absurd h2 (Nat.not_lt.mpr h1), Ag.rf, va_S.rf, Nat.zero_le _, Nat.zero_le _, rfl, hA⟩ hl (by rw [← hls]; exact okl_lar 0 (fun v hv => (hok v hv).cg rfl)) (fun v hv => by cases hv)
/-- the walk's state behind a call -/
theorem Cu.call {G : Gp} {ad0 ad ad' : Nat → Nat → Nat} {wp' : Nat → Nat → Prop} {z1 z2 : Zz} {X X2 : Mm} {s st₀ t T' : State} {H : Heap} {locs L : List Loc} {cells slots mc' ms' : Nat} (U : Cu G ad0 wp z0 X0 s ad z X H locs cells slots) (hw : ∀ k i, wp' k i → wp k i) (hz : z1.1 = z.1 ∧ z1.2.1 = z.2.1 ∧ z1.2.2.1 = z.2.2.1)
    (hE : Ed G ad wp' z1 X H.size ad' z2 X2 t.heap) (hF : va_F (Afr ad z1 wp' H.size) st₀ t) (h0 : st₀.heap = H) (e1 : T'.heap = t.heap) (hL : ∀ q ∈ L, Afr ad z1 wp' H.size q.base) :
    Cu G ad0 wp z0 X0 s ad' (z2.1, z2.2.1, z.2.2.1, z.2.2.2.1 + mc', z.2.2.2.2 + ms') X2 T'.heap (locs ++ L) (cells + mc') (slots + ms') ∧ (∀ k i, i < z.1 k → ad' k i = ad k i ∧ i < z2.1 k) := by
  obtain ⟨hHp, hDf, hold, hnew, hag, hS, hc, hs, hLL, hA⟩ := U
  obtain ⟨h2p, h2d, h2o, h2n, h2a, h2L⟩ := hE
  obtain ⟨hz1, hz2, hz3⟩ := hz
  rw [hz1] at h2o h2n
  have hsub : ∀ q, Afr ad z1 wp' H.size q → Afr ad0 z0 wp s.heap.size q := fun q hq => by
    rcases hq with ⟨k, i, a1, a2, a3⟩ | a1
    · rw [hz1] at a2
      by_cases hi : i < z0.1 k
      · exact Or.inl ⟨k, i, hw k i a1, hi, by rw [a3]; exact (hold k i hi).1⟩
      · exact Or.inr (by rw [a3]; exact hnew k i (by omega) a2)
    · exact Or.inr (Nat.le_trans hS.1 a1)
  have hk := vx_keep h0 e1 hS (fun q _ h => hsub q h) hsub hL hF
  refine ⟨⟨?_, ?_, fun k i hi => ?_, fun k i h1 h2 => ?_, hag.tr hw h2a, hk.2.2, Nat.add_le_add_right hc _, Nat.add_le_add_right hs _, hLL, hA⟩, h2o⟩
  · rw [e1]; exact Hp.cg (z := z2) rfl rfl (by show z.2.2.1 = z2.2.2.1; rw [h2L, hz3]) h2p
  · exact h2d.cg rfl rfl
  · obtain ⟨a1, a2⟩ := hold k i hi
    obtain ⟨b1, b2⟩ := h2o k i a2
    exact ⟨b1.trans a1, b2⟩
  · by_cases hi : i < z.1 k
    · rw [(h2o k i hi).1]; exact hnew k i h1 hi
    · exact Nat.le_trans hS.1 (h2n k i (by omega) h2)
/-- the callee's precondition -/
theorem Cu.pre {G : Gp} {ad0 ad : Nat → Nat → Nat} {z1 : Zz} {l : Launch} {p : Program} {s : State} {m : MethodId} {args : Array Value} {meth : Method} {c0 : Code} {H : Heap} {locs : List Loc} {cells slots : Nat} {As : List Av} (U : Cu G ad0 wp z0 X0 s ad z X H locs cells slots) (C : Cx y xt l G p s m args meth c0) (hz : z1.1 = z.1 ∧ z1.2.1 = z.2.1 ∧ z1.2.2.1 = z.2.2.1) (ho : oks z As) (W9 : State) (hU : W9.heap = H) (hW : s.WarmedH W9.vm) : Pcc G ad z1 X H.size As (As.map (cv G ad)).toArray W9 :=
  ⟨rfl, C.2.2.2.2.2.2.2.2.2.2.1.warm hW, by rw [hU]; exact (U.kh C.2.2.2.2.2.2.2.2.2.2.2).moved hW.alike, by rw [hU]; exact U.1.cg hz.1 hz.2.1 hz.2.2, U.2.1.cg hz.1 hz.2.1, fun v hv => (ho v hv).cg hz.1, by rw [hU]⟩
theorem oks_rapp : ∀ {As st : List Av}, oks z (rapp As st) → oks z As ∧ oks z st
  | [], st, h => ⟨fun v hv => by (cases hv), h⟩
  | a :: as, st, h => by
    obtain ⟨h1, h2⟩ := oks_rapp (As := as) (st := a :: st) h
    exact ⟨oks_c (oks_h h2) h1, oks_t h2⟩
/-- behind a call, whatever its kind -/
theorem run_ok {l : Launch} {G : Gp} {ad0 ad : Nat → Nat → Nat} {p : Program} {e : Env} {s : State} {m : MethodId} {args : Array Value} {below : List Frame} {meth : Method} {c0 : Code} (C : Cx y xt l G p s m args meth c0) {H : Heap} {locs : List Loc} {cells slots : Nat} {la : Array Slot} (U : Cu G ad0 wp z0 X0 s ad z X H locs cells slots) (hl : lv_has la (mxl y) (ls.map (cvq G ad))) (ol : okl z ls) (os : oks z st)
    {wp' : Nat → Nat → Prop} {z1 : Zz} {mc' ms' : Nat} {QR' : Option Av → Zz → Mm → Prop} {QX' : Nat → Zz → Mm → Prop} (hw : ∀ k i, wp' k i → wp k i) (hz : z1.1 = z.1 ∧ z1.2.1 = z.2.1 ∧ z1.2.2.1 = z.2.2.1) {st0 : List Value} {av : Array Value}
    (hr : vx_Run p l e (rmm d mc ms) s m args below meth c0 H locs cells slots mc' ms' (F0 m pc la st0) (st.map (cv G ad)) (Qcc G ad wp' z1 X H.size QR' av) (XCC G ad wp' z1 X H.size QX') (Afr ad z1 wp' H.size))
    (kk : ∀ (w : Option Av) (z2 : Zz) (X2 : Mm), QR' w z2 X2 → Ag wp' X X2 → V y xt d mc ms wp z0 X0 QR QX (z2.1, z2.2.1, z.2.2.1, z.2.2.2.1 + mc', z.2.2.2.2 + ms') (pc + 3) ls (w.toList ++ st) X2)
    (kx : ∀ (x : Nat) (z2 : Zz) (X2 : Mm), QX' x z2 X2 → Ag wp' X X2 → VX y xt d mc ms wp z0 X0 QR QX (z2.1, z2.2.1, z.2.2.1, z.2.2.2.1 + mc', z.2.2.2.2 + ms') pc ls x X2) :
    W p l e (rmm d mc ms) s m args below meth c0 H locs cells slots (vx_MQ below (Qcc G ad0 wp z0 X0 s.heap.size QR) (XCC G ad0 wp z0 X0 s.heap.size QX) args s mc ms (Afr ad0 z0 wp s.heap.size)) (F0 m pc la st0) := by
  intro T hT Y
  rcases hr T hT Y with ⟨v, st₀, t, T', L, h0, Y', hL, e1, e2, ⟨⟨v', ad', z2, X2, hv, hq, hE, hokv⟩, hF⟩, st9⟩ | ⟨q, st₀, t, T', L, E, ce, h0, Y', hL, e1, e2, ⟨⟨x, ad', z2, X2, hv, hq, hE⟩, hF⟩, hce, hcv, hcl, st9⟩
  · obtain ⟨U2, hup⟩ := U.call (mc' := mc') (ms' := ms') hw hz hE hF h0 e1 hL
    have hv9 : v = v'.map (cv G ad') := by injection hv
    subst hv9
    obtain ⟨t2, a1, b1⟩ := kk v' z2 X2 hq hE.2.2.2.2.1 l G ad0 p e s m args below meth c0 C ad' T'.heap (locs ++ L) _ _ la U2 (by rw [cvl_ad ol (fun k i h => (hup k i h).1)]; exact hl) (fun q hq => (ol q hq).up (fun k i h => (hup k i h).2)) (fun u hu => by
      rcases List.mem_append.mp hu with h | h
      · exact (hokv u (by cases v' <;> simp at h ⊢; exact h.symm)).cg rfl
      · exact (os u h).up (fun k i h => (hup k i h).2)) T' rfl Y'
    refine ⟨t2, st9 t2 ?_, b1⟩
    have e9 : ((v'.toList ++ st).map (cv G ad')) = (v'.map (cv G ad')).toList ++ st.map (cv G ad) := by
      rw [List.map_append, cvs_ad os (fun k i h => (hup k i h).1)]
      cases v' <;> rfl
    rw [e9] at a1
    exact a1
  · obtain ⟨U2, hup⟩ := U.call (mc' := mc') (ms' := ms') hw hz hE hF h0 e1 hL
    subst hv
    obtain ⟨t2, a1, b1⟩ := kx x z2 X2 hq hE.2.2.2.2.1 l G ad0 p e s m args below meth c0 C ad' T'.heap (locs ++ L) _ _ la (st.map (cv G ad)) q ce U2 (by rw [cvl_ad ol (fun k i h => (hup k i h).1)]; exact hl) (fun q hq => (ol q hq).up (fun k i h => (hup k i h).2)) (by rw [e1]; exact hce) hcv hcl T' rfl Y'
    exact ⟨t2, st9.trans a1, b1⟩
theorem v_callS (K : ∀ p, chk y p = true) {v : Int32} {a c np y' d' mc' ms' : Nat} {wp' : Nat → Nat → Prop} {As stk : List Av} {z1 : Zz} {QR' : Option Av → Zz → Mm → Prop} {QX' : Nat → Zz → Mm → Prop} (ht : tb y pc = (80, v, a, y', c, np)) (hC : Ct y' d' mc' ms' wp' z1 X As QR' QX') (hy' : Nat.ble y' 299 = true) (hs : stk = rapp As st) (hz : z1.1 = z.1 ∧ z1.2.1 = z.2.1 ∧ z1.2.2.1 = z.2.2.1) (hw : ∀ k i, wp' k i → wp k i) (hlen : As.length = npl.getD y' 0) (hd : Nat.ble (d' + 1) d = true) (hm : (Nat.ble (z.2.2.2.1 + mc') mc && Nat.ble (z.2.2.2.2 + ms') ms) = true) (hst : Nat.ble st.length 4 = true)
    (kk : ∀ (w : Option Av) (z2 : Zz) (X2 : Mm), QR' w z2 X2 → Ag wp' X X2 → V y xt d mc ms wp z0 X0 QR QX (z2.1, z2.2.1, z.2.2.1, z.2.2.2.1 + mc', z.2.2.2.2 + ms') np ls (w.toList ++ st) X2)
    (kx : ∀ (x : Nat) (z2 : Zz) (X2 : Mm), QX' x z2 X2 → Ag wp' X X2 → VX y xt d mc ms wp z0 X0 QR QX (z2.1, z2.2.1, z.2.2.1, z.2.2.2.1 + mc', z.2.2.2.2 + ms') pc ls x X2) : V y xt d mc ms wp z0 X0 QR QX z pc ls stk X := by
  intro l G ad0 p e s m args below meth c0 C ad H locs cells slots la U hl ol os
  obtain ⟨h1, h2, h3⟩ := chk_sp K ht rfl
  have h3 : np = pc + 3 := h3.elim (fun q => by cases q) id
  subst h3
  obtain ⟨hm1, hm2⟩ := Bool.and_eq_true_iff.mp hm
  have hm1 := Nat.le_of_ble_eq_true hm1
  have hm2 := Nat.le_of_ble_eq_true hm2
  have hd := Nat.le_of_ble_eq_true hd
  have hst := Nat.le_of_ble_eq_true hst
  have hsum := cat_sum G ad st
  have hc1 := U.2.2.2.2.2.2.1
  have hc2 := U.2.2.2.2.2.2.2.1
  have hml := ml_ok _ (of_decide_eq_true h2)
  have hyN : y' < NM := hml.1
  have hy3 : y' < 300 := Nat.lt_succ_of_le (Nat.le_of_ble_eq_true hy')
  have hmx := mx_ok y' hyN
  subst hs
  obtain ⟨oA, oS⟩ := oks_rapp os
  refine run_ok C U hl ol oS hw hz (vx_runS (Ts := TT) (As := As.map (cv G ad)) (rest := st.map (cv G ad)) ⟨C.1, C.2.1, C.2.2.1, C.2.2.2.1, C.2.2.2.2.1⟩ (hC.2 l G ad H.size C.2.2.2.2.2.2.2.1) ⟨callB_of (npl.getD y' 0) C.2.2.2.2.1 (gd_in (wsy_in hy3)) rfl rfl rfl (C.2.2.2.2.1 _ (ini_in hyN)) (C.2.2.2.2.1 _ (MLd_in _ (of_decide_eq_true h2))) ⟨(cls_ok y' hyN).2.2.2.1, (cls_ok y' hyN).2.2.2.2, npr_ok y' hyN⟩ ⟨by show d' + 1 ≤ d; omega, by show 8 + (mxl y' + 11) + 40 * d' ≤ 40 * d; omega⟩, C.2.2.2.2.1 _ (STd_in _ (hml.2.1 rfl))⟩ ⟨kt_blind, fun W9 hU hW => U.pre C hz oA W9 hU hW⟩ rfl (by rw [List.length_map]; exact hlen) hl.1 (by rw [rapp_eq, List.map_append, List.map_reverse]) (by show 2 * 0 + _ ≤ 8; omega) h1 ⟨by show cells + mc' ≤ mc; omega, by show slots + ms' ≤ ms; omega⟩) kk kx
theorem v_callV (K : ∀ p, chk y p = true) {v : Int32} {a c np y' d' mc' ms' k9 i9 c9 n9 : Nat} {wp' : Nat → Nat → Prop} {As stk : List Av} {z1 : Zz} {QR' : Option Av → Zz → Mm → Prop} {QX' : Nat → Zz → Mm → Prop} (ht : tb y pc = (81, v, a, y', c, np)) (hC : Ct y' d' mc' ms' wp' z1 X (aR k9 i9 :: As) QR' QX') (hsh : shp k9 = (0, c9, n9)) (hcl : (vck c9).1 = RN (cid y')) (hc9 : Nat.ble (c9 + 1) vcl.length = true) (hs : stk = rapp (aR k9 i9 :: As) st) (hz : z1.1 = z.1 ∧ z1.2.1 = z.2.1 ∧ z1.2.2.1 = z.2.2.1) (hw : ∀ k i, wp' k i → wp k i) (hlen : As.length = npl.getD y' 0) (hd : Nat.ble (d' + 1) d = true) (hm : (Nat.ble (z.2.2.2.1 + mc') mc && Nat.ble (z.2.2.2.2 + ms') ms) = true) (hst : Nat.ble st.length 4 = true)
    (kk : ∀ (w : Option Av) (z2 : Zz) (X2 : Mm), QR' w z2 X2 → Ag wp' X X2 → V y xt d mc ms wp z0 X0 QR QX (z2.1, z2.2.1, z.2.2.1, z.2.2.2.1 + mc', z.2.2.2.2 + ms') np ls (w.toList ++ st) X2)
    (kx : ∀ (x : Nat) (z2 : Zz) (X2 : Mm), QX' x z2 X2 → Ag wp' X X2 → VX y xt d mc ms wp z0 X0 QR QX (z2.1, z2.2.1, z.2.2.1, z.2.2.2.1 + mc', z.2.2.2.2 + ms') pc ls x X2) : V y xt d mc ms wp z0 X0 QR QX z pc ls stk X := by
  intro l G ad0 p e s m args below meth c0 C ad H locs cells slots la U hl ol os
  obtain ⟨h1, h2, h3⟩ := chk_sp K ht rfl
  have h3 : np = pc + 3 := h3.elim (fun q => by cases q) id
  subst h3
  obtain ⟨hm1, hm2⟩ := Bool.and_eq_true_iff.mp hm
  have hm1 := Nat.le_of_ble_eq_true hm1
  have hm2 := Nat.le_of_ble_eq_true hm2
  have hd := Nat.le_of_ble_eq_true hd
  have hst := Nat.le_of_ble_eq_true hst
  have hsum := cat_sum G ad st
  have hc1 := U.2.2.2.2.2.2.1
  have hc2 := U.2.2.2.2.2.2.2.1
  have hml := ml_ok _ (of_decide_eq_true h2)
  have hyN : y' < NM := hml.1
  obtain ⟨hy3, hI, hSl⟩ := hml.2.2.1 rfl
  have hmx := mx_ok y' hyN
  subst hs
  obtain ⟨oA, oS⟩ := oks_rapp os
  have hrec := va_recv C.2.2.2.2.2.2.2.2.2.2.1.1 (sub1 U.1 (n68 hsh rfl) (oks_h oA)) (vcl_at (Nat.le_of_ble_eq_true hc9)) (q0 := 0) (fs := (List.range n9).map (fv ad z X k9 i9 c9)) (by rw [cel_o hsh]; rfl)
  rw [hcl] at hrec
  refine run_ok C U hl ol oS hw hz (vx_runV (C := RN (cid y')) (Ts := TT) (b := ad k9 i9) (As := As.map (cv G ad)) (rest := st.map (cv G ad)) ⟨C.1, C.2.1, C.2.2.1, C.2.2.2.1, C.2.2.2.2.1⟩ (hC.2 l G ad H.size C.2.2.2.2.2.2.2.1) ⟨callB_of (npl.getD y' 0) C.2.2.2.2.1 (gd_in (wsy_in hy3)) rfl rfl rfl (C.2.2.2.2.1 _ (ini_in hyN)) (C.2.2.2.2.1 _ (MLd_in _ (of_decide_eq_true h2))) ⟨(cls_ok y' hyN).2.2.2.1, (cls_ok y' hyN).2.2.2.2, npr_ok y' hyN⟩ ⟨by show d' + 1 ≤ d; omega, by show 8 + (mxl y' + 11) + 40 * d' ≤ 40 * d; omega⟩, C.2.2.2.2.1 _ (IMd_in _ hI), C.2.2.2.2.1 _ (SLd_in _ hSl)⟩ ⟨kt_blind, hrec, fun W9 hU hW => U.pre C hz oA W9 hU hW⟩ rfl (by rw [List.length_map]; exact hlen) hl.1 (by rw [rapp_eq, List.map_append, List.reverse_cons, List.map_append, List.map_reverse]; simp [cv]) (by show 2 * 0 + _ ≤ 8; omega) h1 ⟨by show cells + mc' ≤ mc; omega, by show slots + ms' ≤ ms; omega⟩) kk kx
/-- an exception that isn't caught here -/
theorem vx_none {x : Nat} (h : QX x z X) (hr : rok d mc ms z = true := by rfl) : VX y [] d mc ms wp z0 X0 QR QX z pc ls x X := by
  intro l G ad0 p e s m args below meth c0 C ad H locs cells slots la rest q ce U hl ol hce hcv hcl
  obtain ⟨r1, r2, r3⟩ := rok_of hr
  exact vx_out (fun x hx => by rw [C.2.2.2.2.2.2.2.2.1] at hx; cases hx) C.2.2.2.2.2.1 hce hcv hcl (fun t hT _ => ⟨⟨x, ad, z, X, rfl, h, by rw [hT]; exact U.ed⟩, U.2.2.2.2.2.1.F hT⟩) U.locsA (Nat.le_trans U.2.2.2.2.2.2.1 r2) (Nat.le_trans U.2.2.2.2.2.2.2.1 r3)
end CALLS
