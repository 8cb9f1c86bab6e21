/-! rows cloned, bytes put into fields; calls that end anyhow (printed by wip/p53/new/xf.py) -/
set_option maxRecDepth 100000 in
theorem jw_cln : ∀ w ∈ [Cond.methodLink (RN 18) 310 ⟨"[B", "clone", "()Ljava/lang/Object;"⟩, Cond.sameMethod "[B" "java/lang/Object" "clone" "()Ljava/lang/Object;", Cond.native ⟨"java/lang/Object", "clone", "()Ljava/lang/Object;"⟩, Cond.instanceMethod ⟨"java/lang/Object", "clone", "()Ljava/lang/Object;"⟩, Cond.selects "[B" ⟨"[B", "clone", "()Ljava/lang/Object;"⟩ ⟨"java/lang/Object", "clone", "()Ljava/lang/Object;"⟩, Cond.classLink (RN 18) 311 "[B"], w ∈ TT := in_by _ [1098, 1099, 1100, 1101, 1102, 1104] (by decide +kernel) (by decide +kernel)
/-- row i2 of kind k becomes what row i is -/
def cR (X : Mm) (k i i2 : Nat) : Mm := (fun a b c => if a = k ∧ b = i2 then X.1 k i c else X.1 a b c, X.2)
theorem cR_off {X : Mm} {k i i2 k' i' : Nat} (h : ¬ (k' = k ∧ i' = i2)) (j' : Nat) : gI (cR X k i i2) k' i' j' = gI X k' i' j' ∧ gJ (cR X k i i2) k' i' j' = gJ X k' i' j' ∧ gD (cR X k i i2) k' i' j' = gD X k' i' j' := ⟨if_neg h, rfl, rfl⟩
theorem cR_at {X : Mm} {k i i2 j : Nat} : gI (cR X k i i2) k i2 j = gI X k i j := if_pos ⟨rfl, rfl⟩
section CLN
variable {y : Nat} {xt : List ExceptionTableEntry} {d mc ms : Nat} {wp : Nat → Nat → Prop} {z0 : Zz} {X0 : Mm} {QR : Option Av → Zz → Mm → Prop} {QX : Nat → Zz → Mm → Prop} {z : Zz} {pc : Nat} {ls : Lo} {st : List Av} {X : Mm}
theorem v_castB (K : ∀ p, chk y p = true) {v9 : Int32} {b cc np k i n : Nat} (ht : tb y pc = (89, v9, 311, b, cc, np)) (hy : cid y = 18) (hk : shp k = (1, 1, n)) (hk8 : Nat.beq k 68 = false) (kk : V y xt d mc ms wp z0 X0 QR QX z np ls (aR k i :: st) X) : V y xt d mc ms wp z0 X0 QR QX z pc ls (aR k i :: st) X := by
  intro l G ad0 p e s m args below meth c0 C ad H locs cells slots la U hl ol os
  obtain ⟨h1, -, h3⟩ := chk_sp K ht rfl
  have h3 : np = pc + 3 := h3.elim (fun q => by cases q) id
  subst h3
  have hi : i < z.1 k := oks_h os
  have hP0 := sub1 U.1 hk8 hi
  have hK := C.2.2.2.2.2.2.2.2.2.2.1.1
  have hl9 : (Cond.classLink (RN (cid y)) 311 "[B").before args s = true := by rw [hy]; exact C.2.2.2.2.1 _ (jw_cln _ (by simp))
  exact va_castA C.1 C.2.1 C.2.2.2.1 hl9 hP0 0 (cA := G.2.1 1) (x := (aln z k, arc ad z X k i 1)) (by rw [cel_a hk]; rfl) (hK.2 1 _ rfl).2 h1 (kk l G ad0 p e s m args below meth c0 C ad H locs cells slots la U hl ol os)
theorem v_clone (K : ∀ p, chk y p = true) {v9 : Int32} {b cc np k i n : Nat} (ht : tb y pc = (98, v9, 310, b, cc, np)) (hy : cid y = 18) (hk : shp k = (1, 1, n)) (hk8 : Nat.beq k 68 = false) (hf9 : ∀ j, j < n → fits .byte (.int (gI X k i j)) = true) (hne : z.1 ≠ nF) (hwk : wp k (z.1 k)) (hs : st.length ≤ 4) (hd4 : Nat.ble 4 d = true) (hr : (Nat.ble (z.2.2.2.1 + 1) mc && Nat.ble (z.2.2.2.2 + n) ms) = true)
    (kk : V y xt d mc ms wp z0 X0 QR QX (zN z k n) np ls (aR k (z.1 k) :: st) (cR X k i (z.1 k))) : V y xt d mc ms wp z0 X0 QR QX z pc ls (aR k i :: st) X := by
  intro l G ad0 p e s m args below meth c0 C ad H locs cells slots la U hl ol os
  obtain ⟨h1, -, h3⟩ := chk_sp K ht rfl
  have h3 : np = pc + 3 := h3.elim (fun q => by cases q) id
  subst h3
  obtain ⟨hr1, hr2⟩ := Bool.and_eq_true_iff.mp hr
  have hr1 := Nat.le_of_ble_eq_true hr1
  have hr2 := Nat.le_of_ble_eq_true hr2
  have hd4 := Nat.le_of_ble_eq_true hd4
  have hsum := cat_sum G ad st
  have hc1 := U.2.2.2.2.2.2.1
  have hc2 := U.2.2.2.2.2.2.2.1
  have hi : i < z.1 k := oks_h os
  have hP0 := (U.1.1 k i hi).1 hk8
  rw [cel_a hk] at hP0
  have hal0 : aln z k = n := by unfold aln; rw [hk8, hk]; rfl
  have hc0 : H[ad k i]? = some (arrV (G.2.1 1) (aln z k) (fun q => .int (gI X k i q))) := hP0
  rw [hal0] at hc0
  have hKt := C.2.2.2.2.2.2.2.2.2.2.1
  have hnm : s.vm.findClass "[B" = some (G.2.1 1) := (hKt.1.2 1 _ rfl).2
  obtain ⟨c9, t9, f1, f2, f3⟩ := Cond.castable_spec (va_Nw.use (A := args) rfl hKt.2.2.2.2.2.2.2.2)
  cases hnm.symm.trans f1
  have hW : ∀ w ∈ _, w ∈ TT := jw_cln
  have hT9 := (hKt.1.2 1 _ rfl).1
  obtain ⟨-, k0, hkk0, cm0, hkk0'⟩ := hT9 n (fun q => .int (gI X k i q))
  have hU : Cu G ad0 wp z0 X0 s (adN ad z k H.size) (zN z k n) (cR X k i (z.1 k)) (H.push (arrV (G.2.1 1) n (fun q => .int (gI X k i q)))) locs (cells + 1) (slots + n) := U.growX k n _ (fun a b h j => cR_off h j) hwk hne (by rw [Array.size_push]) (fun q hq => by rw [Array.getElem?_push, if_neg (Nat.ne_of_lt hq)]) hk8 (by
    have hal : aln (zN z k n) k = n := by unfold aln; rw [hk8, hk]; rfl
    rw [cel_a hk, hal]
    show (H.push (arrV (G.2.1 1) n (fun q => .int (gI X k i q))))[H.size]? = some (arrV (G.2.1 1) n (fun j => Value.int (gI (cR X k i (z.1 k)) k (z.1 k) j)))
    rw [Array.getElem?_push_size]
    refine congrArg some (arrV_cg (fun j hj => ?_))
    rw [cR_at])
  have he : ∀ a b, b < z.1 a → adN ad z k H.size a b = ad a b := fun a b h => adN_old h
  have hup : ∀ a b, b < z.1 a → b < (zN z k n).1 a := fun a b h => zN_lt.mpr (Or.inl h)
  have os := oks_t os
  have := kk l G ad0 p e s m args below meth c0 C (adN ad z k H.size) (H.push (arrV (G.2.1 1) n (fun q => .int (gI X k i q)))) locs (cells + 1) (slots + n) la hU (by rw [cvl_ad ol he]; exact hl) (fun q hq => (ol q hq).up hup) (oks_c (by show z.1 k < (zN z k n).1 k; exact zN_lt.mpr (Or.inr ⟨rfl, rfl⟩)) (fun v hv => (os v hv).up hup))
  rw [List.map_cons, cvs_ad os he] at this
  have e9 : cv G (adN ad z k H.size) (aR k (z.1 k)) = .ref H.size := congrArg Value.ref adN_new
  rw [e9] at this
  refine W.of (H' := H.push (arrV (G.2.1 1) n (fun q => .int (gI X k i q)))) (g2 := F0 m (pc + 3) la (.ref H.size :: st.map (cv G ad))) (locs' := locs) (cells' := cells + 1) (slots' := slots + n) (fun T hT Y => ?_) this
  have hcT : T.heap[ad k i]? = some (arrV (G.2.1 1) n (fun q => .int (gI X k i q))) := by rw [hT]; exact hc0
  have hsz : (arrV (G.2.1 1) n (fun q => .int (gI X k i q))).slots.size = n := arrV_size _ _ _
  obtain ⟨-, kA, hkA, comp, hkind⟩ := State.isArrayOf_alike Y.warmed.alike (hT9 0 (fun _ => .null))
  have hl9 : (Cond.methodLink (RN (cid y)) 310 ⟨"[B", "clone", "()Ljava/lang/Object;"⟩).before args s = true := by rw [hy]; exact C.2.2.2.2.1 _ (hW _ (by simp))
  obtain ⟨vm', X', step⟩ := Y.cloneArray C.1 C.2.2.2.1 hl9 (C.2.2.2.2.1 _ (hW _ (by simp))) (C.2.2.2.2.1 _ (hW _ (by simp))) (C.2.2.2.2.1 _ (hW _ (by simp))) (C.2.2.2.2.1 _ (hW _ (by simp))) (a := ad k i) (cell := arrV (G.2.1 1) n (fun q => .int (gI X k i q))) hcT (fun _ h => by cases h) (fun h => by cases h) hnm f2 f3
    (fun j v hv => by
      have hj : j < n := by
        have := (Array.getElem?_eq_some_iff.mp hv).1
        rw [hsz] at this
        exact this
      rw [arrV_read _ _ hj] at hv
      cases hv
      have hk' : T.vm.classes[(arrV (G.2.1 1) n fun q => Value.int (gI X k i q)).cls]? = some kA := hkA
      simpa [State.fitsSlot, State.slotType?, hk', hkind] using (show fits (aty 1) (.int (gI X k i j)) = true from hf9 j hj))
    (g := F0 m pc la (.ref (ad k i) :: st.map (cv G ad))) rfl (hl.1.trans C.2.2.1.symm) rfl (by rw [C.2.1]; exact h1) (by show 1 ≤ d; omega) (by show 2 * 0 + _ + 14 ≤ 40 * d; omega) (by show cells + 1 ≤ mc; omega) (by rw [hsz]; show slots + n ≤ ms; omega) (hloader := Vm.clonesLoader_of_array hkk0 hkk0')
  rw [hsz] at X'
  refine ⟨_, ?_, X', fun tg h => step tg (by rw [hT]; exact h)⟩
  rw [← hT]
  rfl
/-- a field is given what it has already -/
theorem v_same (K : ∀ p, chk y p = true) {v9 v : Int32} {a b c np k i n : Nat} (ht : tb y pc = (51, v9, a, b, c, np)) (h1 : shp k = (0, c, n)) (h2 : Nat.ble (b + 1) n = true) (hfin : ((vck c).2.1 b).2.2.2 = false) (hft : ft c b = 4) (hw : wp k i) (hX : gI X k i b = v) (hn : narrow (vty c b) (.int v) = .int v) (hfit : fits (vty c b) (.int v) = true) (kk : V y xt d mc ms wp z0 X0 QR QX z np ls st X) : V y xt d mc ms wp z0 X0 QR QX z pc ls (aI v :: aR k i :: st) X := by
  obtain ⟨hd, hl0, h3⟩ := chk_sp K ht rfl
  have h3 : np = pc + 3 := h3.elim (fun q => by cases q) id
  subst h3
  have hl0 : (decide ((cid y, a, c, b) ∈ FLd) && (Nat.ble 3 (ft c b) || decide (((vck c).2.1 b).2.2.2 = false))) = true := hl0
  have h0 : (cid y, a, c, b) ∈ FLd := of_decide_eq_true (Bool.and_eq_true_iff.mp hl0).1
  exact o_put h0 h1 (Nat.le_of_ble_eq_true h2) hfin hw (fun _ _ _ _ => ⟨rfl, rfl, rfl⟩) (fun G ad => by simp only [fv, hft, hX]; rfl) (fun _ _ _ => rfl) (fun _ _ => hn) (fun _ _ => hfit) hd kk
theorem v_sameF (K : ∀ p, chk y p = true) {v9 v : Int32} {a b c np k i n : Nat} (ht : tb y pc = (51, v9, a, b, c, np)) (h1 : shp k = (0, c, n)) (h2 : Nat.ble (b + 1) n = true) (hfin : ((vck c).2.1 b).2.2.2 = true) (hini : isIni y = true) (hdecl : ((vck c).2.1 b).1 = RN (cid y)) (hft : ft c b = 4) (hw : wp k i) (hX : gI X k i b = v) (hn : narrow (vty c b) (.int v) = .int v) (hfit : fits (vty c b) (.int v) = true) (kk : V y xt d mc ms wp z0 X0 QR QX z np ls st X) : V y xt d mc ms wp z0 X0 QR QX z pc ls (aI v :: aR k i :: st) X := by
  intro l G ad0 p e s m args below meth c0 C ad H locs cells slots la U hl ol os
  obtain ⟨hd, hl0, h3⟩ := chk_sp K ht rfl
  have h3 : np = pc + 3 := h3.elim (fun q => by cases q) id
  subst h3
  have hl0 : (decide ((cid y, a, c, b) ∈ FLd) && (Nat.ble 3 (ft c b) || decide (((vck c).2.1 b).2.2.2 = false))) = true := hl0
  have h0 : (cid y, a, c, b) ∈ FLd := of_decide_eq_true (Bool.and_eq_true_iff.mp hl0).1
  have h2 := Nat.le_of_ble_eq_true h2
  have hi : i < z.1 k := oks_h (oks_t os)
  have hb := FLd_ok _ h0
  have hK := C.2.2.2.2.2.2.2.2.2.2.1.1
  have hc := vcl_at hb.2
  have hap := va_apart (own := RN (cid y)) (C := (vck c).1) (T := (vck c).2.1) (N := (vck c).2.2) C.2.2.2.2.1 (lay_in hb.2) (vty c) (vty_ok c hb.2) (vnm_ok c hb.2) hK hc
  have hP := (U.1.1 k i hi).1 (n68 h1 rfl)
  rw [cel_o h1] at hP
  obtain ⟨r, g1, cell, q1, q2, q3, q4⟩ := hP
  have hr : r = vck c := Option.some.inj (g1.symm.trans hc)
  subst hr
  obtain ⟨hS, hfc, kC, hkC, hkind⟩ := hK.1 c _ hc
  obtain ⟨cf, kf, fi, f, hfi, hsl⟩ := hS b hb.1
  have hlay := C.2.2.2.2.1 _ (lay_in hb.2 _ (u_in_lay hb.1))
  unfold u_lay at hlay
  rw [if_pos hfin] at hlay
  have hst := (u_facts hfc hkC (u_lays C.2.2.2.2.1 (lay_in hb.2) hb.1) hfi).1
  have hcf : m.cls = cf := by
    obtain ⟨_, _, c', _, _, _, -, -, hf', -, -, -, hown2, -⟩ := Cond.laysFinal_spec hlay
    have e1 : c' = cf := by have := hfi.symm.trans hf'; simp at this; exact this.1.symm
    rw [hdecl] at hown2
    rw [← e1]; exact Option.some.inj (C.2.2.2.1.symm.trans hown2)
  have h6 := u_fits hfc hkC hkind (Or.inr hlay) hfi (vty_ok c hb.2 b hb.1) hn hfit
  have hb1 : ∀ (G : Gp) (ad : Nat → Nat → Nat), fv ad z X k i c b = cv G ad (aI v) := fun G ad => by simp only [fv, hft, hX]; rfl
  have hb2 : ∀ (ad : Nat → Nat → Nat) (j : Nat), j ≠ b → fv ad z X k i c j = fv ad z X k i c j := fun _ _ _ => rfl
  refine W.putFinK C.1 C.2.1 C.2.2.2.1 (C.2.2.2.2.1 _ (FLd_in _ h0)) hfi hst hcf (C.2.2.2.2.2.2.2.2.2.1 hini) (by rw [q2]; exact h6) q1 q3 (by rw [hsl]; exact k2_hasslot (q4 b hb.1)) rfl rfl hd fun H' e1 e2 e3 => ?_
  rw [hsl] at e1 ⊢
  refine kk l G ad0 p e s m args below meth c0 C ad H' _ cells slots la (U.store hi (n68 h1 rfl) hw X (fun _ _ _ _ => ⟨rfl, rfl, rfl⟩) ?_ e2 e3 (l2 := [⟨ad k i, (G.1.2 c) b⟩]) (fun q hq => by rw [List.mem_singleton.mp hq])) hl ol (oks_t (oks_t os))
  rw [cel_o h1, map_set (hb1 G ad) (hb2 ad)]
  exact ⟨_, hc, t_OB.to (V := updV (vp_V ((List.range n).map (fv ad z X k i c))) b (cv G ad (aI v))) ⟨_, e1, q2, q3, t_set q4 hap hb.1 (cv G ad (aI v))⟩ (fun j _ => vp_updV_set (by simpa using (show b < n by omega)) (cv G ad (aI v)) j)⟩
end CLN
