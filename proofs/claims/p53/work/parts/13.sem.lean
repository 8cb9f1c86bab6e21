/-! straight code: what the tables tell of it is what the machine does (printed by wip/whole/gen13.py) -/
theorem chk_sp {y pc op a b c np : Nat} {v : Int32} (K : ∀ p, chk y p = true) (ht : tb y pc = (op, v, a, b, c, np)) (hop : Nat.beq op 999 = false) : decode (byt y) pc = .ok (rl pc op v a b c np) ∧ lkb y op v a b c = true ∧ (noN op = true ∨ np = pc + ln op v b) := by
  have h := K pc
  unfold chk at h
  rw [ht] at h
  simp only [hop, cond_false, Bool.and_eq_true, Bool.or_eq_true, decide_eq_true_eq] at h
  exact ⟨h.1, h.2.1, h.2.2.imp id Nat.eq_of_beq_eq_true⟩
theorem allP_cons {p : Prop} {ps : List Prop} (h : allP (p :: ps)) : p ∧ allP ps := by
  cases ps with
  | nil => exact ⟨h, trivial⟩
  | cons q qs => exact h
theorem allP_app {l1 l2 : List Prop} (h : allP (l1 ++ l2)) : allP l1 ∧ allP l2 := by
  induction l1 with
  | nil => exact ⟨trivial, h⟩
  | cons p ps ih =>
    obtain ⟨a, b⟩ := allP_cons (p := p) (ps := ps ++ l2) h
    obtain ⟨c, d⟩ := ih b
    refine ⟨?_, d⟩
    cases ps with
    | nil => exact a
    | cons q qs => exact ⟨a, c⟩
theorem f4 {a b : Nat} (h : cond (Nat.beq b 1) (Nat.ble a 3) true = true) (hb : Nat.beq b 1 = true) : a < 4 := by
  rw [hb] at h
  exact Nat.lt_succ_of_le (Nat.le_of_ble_eq_true h)
section SEM
variable {y : Nat} {xt : List ExceptionTableEntry} {d mc ms : Nat} {wp : Nat → Nat → Prop} {z0 : Zz} {X0 : Mm} {QR : Option Av → Zz → Mm → Prop} {QX : Nat → Zz → Mm → Prop} {z : Zz} {pc : Nat} {ls : Lo} {st : List Av} {X : Mm}
variable {op a b c np : Nat} {v : Int32} {r : R4}
set_option maxHeartbeats 4000000 in
theorem semA_ok (hd : decode (byt y) pc = .ok (rl pc op v a b c np)) (hl : lkb y op v a b c = true) (hn : noN op = true ∨ np = pc + ln op v b) (hr : rok d mc ms z = true) (h : semA op v a ls st X = some r) (hc : allP r.2.2.2) (k : V y xt d mc ms wp z0 X0 QR QX z np r.1 r.2.1 r.2.2.1) : V y xt d mc ms wp z0 X0 QR QX z pc ls st X := by
  unfold semA at h
  split at h
  · cases h
    have hn : np = pc + 1 := hn.elim (fun q => by cases q) id
    subst hn
    exact o_iconst hd k
  · cases h
    have hn : np = pc + 2 := hn.elim (fun q => by cases q) id
    subst hn
    exact o_bipush (of_decide_eq_true hl) hd k
  · cases h
    have hn : np = pc + 3 := hn.elim (fun q => by cases q) id
    subst hn
    exact o_sipush (of_decide_eq_true hl) hd k
  · split at h
    · next hg =>
      cases h
      have hl : cond (Nat.beq b 1) (Nat.ble a 3) true = true := hl
      cases hb : Nat.beq b 1 with
      | true =>
        simp only [rl, hb, cond_true] at hd
        have hn : np = pc + 1 := hn.elim (fun q => by cases q) (fun q => by simpa [ln, hb] using q)
        subst hn
        exact o_iload_n (f4 hl hb) hg hd k
      | false =>
        simp only [rl, hb, cond_false] at hd
        have hn : np = pc + 2 := hn.elim (fun q => by cases q) (fun q => by simpa [ln, hb] using q)
        subst hn
        exact o_iload hg hd k
    · cases h
  · split at h
    · next hg =>
      next w =>
      cases hw : isRf w with
      | false => rw [hw] at h; cases h
      | true =>
      rw [hw] at h
      cases h
      have hl : cond (Nat.beq b 1) (Nat.ble a 3) true = true := hl
      cases hb : Nat.beq b 1 with
      | true =>
        simp only [rl, hb, cond_true] at hd
        have hn : np = pc + 1 := hn.elim (fun q => by cases q) (fun q => by simpa [ln, hb] using q)
        subst hn
        exact o_aload_n (f4 hl hb) hw hg hd k
      | false =>
        simp only [rl, hb, cond_false] at hd
        have hn : np = pc + 2 := hn.elim (fun q => by cases q) (fun q => by simpa [ln, hb] using q)
        subst hn
        exact o_aload hw hg hd k
    · cases h
  · split at h
    · next hg =>
      cases h
      have hl : cond (Nat.beq b 1) (Nat.ble a 3) true = true := hl
      cases hb : Nat.beq b 1 with
      | true =>
        simp only [rl, hb, cond_true] at hd
        have hn : np = pc + 1 := hn.elim (fun q => by cases q) (fun q => by simpa [ln, hb] using q)
        subst hn
        exact o_lload_n (f4 hl hb) hg hd k
      | false =>
        simp only [rl, hb, cond_false] at hd
        have hn : np = pc + 2 := hn.elim (fun q => by cases q) (fun q => by simpa [ln, hb] using q)
        subst hn
        exact o_lload hg hd k
    · cases h
  · split at h
    · next hg =>
      cases h
      have hl : cond (Nat.beq b 1) (Nat.ble a 3) true = true := hl
      cases hb : Nat.beq b 1 with
      | true =>
        simp only [rl, hb, cond_true] at hd
        have hn : np = pc + 1 := hn.elim (fun q => by cases q) (fun q => by simpa [ln, hb] using q)
        subst hn
        exact o_fload_n (f4 hl hb) hg hd k
      | false =>
        simp only [rl, hb, cond_false] at hd
        have hn : np = pc + 2 := hn.elim (fun q => by cases q) (fun q => by simpa [ln, hb] using q)
        subst hn
        exact o_fload hg hd k
    · cases h
  · split at h
    · next hg =>
      cases h
      have hl : cond (Nat.beq b 1) (Nat.ble a 3) true = true := hl
      cases hb : Nat.beq b 1 with
      | true =>
        simp only [rl, hb, cond_true] at hd
        have hn : np = pc + 1 := hn.elim (fun q => by cases q) (fun q => by simpa [ln, hb] using q)
        subst hn
        exact o_dload_n (f4 hl hb) hg hd k
      | false =>
        simp only [rl, hb, cond_false] at hd
        have hn : np = pc + 2 := hn.elim (fun q => by cases q) (fun q => by simpa [ln, hb] using q)
        subst hn
        exact o_dload hg hd k
    · cases h
  · split at h
    · cases h
      have hl : (cond (Nat.beq b 1) (Nat.ble a 3) true && Nat.ble (a + 1) (mxl y)) = true := hl
      obtain ⟨hl1, hl2⟩ := Bool.and_eq_true_iff.mp hl
      have hl2 := Nat.le_of_ble_eq_true hl2
      cases hb : Nat.beq b 1 with
      | true =>
        simp only [rl, hb, cond_true] at hd
        have hn : np = pc + 1 := hn.elim (fun q => by cases q) (fun q => by simpa [ln, hb] using q)
        subst hn
        exact o_istore_n (f4 hl1 hb) hl2 hd k
      | false =>
        simp only [rl, hb, cond_false] at hd
        have hn : np = pc + 2 := hn.elim (fun q => by cases q) (fun q => by simpa [ln, hb] using q)
        subst hn
        exact o_istore hl2 hd k
    · cases h
  · split at h
    · next w st2 =>
      cases hw : isRf w with
      | false => rw [hw] at h; cases h
      | true =>
      rw [hw] at h
      cases h
      have hl : (cond (Nat.beq b 1) (Nat.ble a 3) true && Nat.ble (a + 1) (mxl y)) = true := hl
      obtain ⟨hl1, hl2⟩ := Bool.and_eq_true_iff.mp hl
      have hl2 := Nat.le_of_ble_eq_true hl2
      cases hb : Nat.beq b 1 with
      | true =>
        simp only [rl, hb, cond_true] at hd
        have hn : np = pc + 1 := hn.elim (fun q => by cases q) (fun q => by simpa [ln, hb] using q)
        subst hn
        exact o_astore_n (f4 hl1 hb) hl2 hw hd k
      | false =>
        simp only [rl, hb, cond_false] at hd
        have hn : np = pc + 2 := hn.elim (fun q => by cases q) (fun q => by simpa [ln, hb] using q)
        subst hn
        exact o_astore hl2 hw hd k
    · cases h
  · split at h
    · cases h
      have hl : (cond (Nat.beq b 1) (Nat.ble a 3) true && Nat.ble (a + 2) (mxl y)) = true := hl
      obtain ⟨hl1, hl2⟩ := Bool.and_eq_true_iff.mp hl
      have hl2 := Nat.le_of_ble_eq_true hl2
      cases hb : Nat.beq b 1 with
      | true =>
        simp only [rl, hb, cond_true] at hd
        have hn : np = pc + 1 := hn.elim (fun q => by cases q) (fun q => by simpa [ln, hb] using q)
        subst hn
        exact o_lstore_n (f4 hl1 hb) hl2 hd k
      | false =>
        simp only [rl, hb, cond_false] at hd
        have hn : np = pc + 2 := hn.elim (fun q => by cases q) (fun q => by simpa [ln, hb] using q)
        subst hn
        exact o_lstore hl2 hd k
    · cases h
  · split at h
    · cases h
      have hl : (cond (Nat.beq b 1) (Nat.ble a 3) true && Nat.ble (a + 1) (mxl y)) = true := hl
      obtain ⟨hl1, hl2⟩ := Bool.and_eq_true_iff.mp hl
      have hl2 := Nat.le_of_ble_eq_true hl2
      cases hb : Nat.beq b 1 with
      | true =>
        simp only [rl, hb, cond_true] at hd
        have hn : np = pc + 1 := hn.elim (fun q => by cases q) (fun q => by simpa [ln, hb] using q)
        subst hn
        exact o_fstore_n (f4 hl1 hb) hl2 hd k
      | false =>
        simp only [rl, hb, cond_false] at hd
        have hn : np = pc + 2 := hn.elim (fun q => by cases q) (fun q => by simpa [ln, hb] using q)
        subst hn
        exact o_fstore hl2 hd k
    · cases h
  · split at h
    · cases h
      have hl : (cond (Nat.beq b 1) (Nat.ble a 3) true && Nat.ble (a + 2) (mxl y)) = true := hl
      obtain ⟨hl1, hl2⟩ := Bool.and_eq_true_iff.mp hl
      have hl2 := Nat.le_of_ble_eq_true hl2
      cases hb : Nat.beq b 1 with
      | true =>
        simp only [rl, hb, cond_true] at hd
        have hn : np = pc + 1 := hn.elim (fun q => by cases q) (fun q => by simpa [ln, hb] using q)
        subst hn
        exact o_dstore_n (f4 hl1 hb) hl2 hd k
      | false =>
        simp only [rl, hb, cond_false] at hd
        have hn : np = pc + 2 := hn.elim (fun q => by cases q) (fun q => by simpa [ln, hb] using q)
        subst hn
        exact o_dstore hl2 hd k
    · cases h
  · split at h
    · next hg =>
      cases h
      have hn : np = pc + 3 := hn.elim (fun q => by cases q) id
      subst hn
      exact o_iinc (Nat.le_of_ble_eq_true hl) hg hd k
    · cases h
  · split at h
    · next w st2 =>
      cases hw : cat2 w with
      | true => rw [hw] at h; cases h
      | false =>
      rw [hw] at h
      cases h
      have hn : np = pc + 1 := hn.elim (fun q => by cases q) id
      subst hn
      exact o_dup hw hd k
    · cases h
  · split at h
    · next w u st2 =>
      cases hw : cat2 w with
      | true => rw [hw] at h; cases h
      | false =>
      cases hu : cat2 u with
      | true => rw [hw, hu] at h; cases h
      | false =>
      rw [hw, hu] at h
      cases h
      have hn : np = pc + 1 := hn.elim (fun q => by cases q) id
      subst hn
      exact o_dup2 hw hu hd k
    · cases h
  · cases h
set_option maxHeartbeats 4000000 in
theorem semB_ok (hd : decode (byt y) pc = .ok (rl pc op v a b c np)) (hl : lkb y op v a b c = true) (hn : noN op = true ∨ np = pc + ln op v b) (hr : rok d mc ms z = true) (h : semB op ls st X = some r) (hc : allP r.2.2.2) (k : V y xt d mc ms wp z0 X0 QR QX z np r.1 r.2.1 r.2.2.1) : V y xt d mc ms wp z0 X0 QR QX z pc ls st X := by
  unfold semB at h
  split at h
  · split at h
    · cases h
      have hn : np = pc + 1 := hn.elim (fun q => by cases q) id
      subst hn
      exact o_iadd hd k
    · cases h
  · split at h
    · cases h
      have hn : np = pc + 1 := hn.elim (fun q => by cases q) id
      subst hn
      exact o_isub hd k
    · cases h
  · split at h
    · cases h
      have hn : np = pc + 1 := hn.elim (fun q => by cases q) id
      subst hn
      exact o_imul hd k
    · cases h
  · split at h
    · cases h
      have hn : np = pc + 1 := hn.elim (fun q => by cases q) id
      subst hn
      exact o_ineg hd k
    · cases h
  · split at h
    · cases h
      have hn : np = pc + 1 := hn.elim (fun q => by cases q) id
      subst hn
      exact o_iand hd k
    · cases h
  · split at h
    · cases h
      have hn : np = pc + 1 := hn.elim (fun q => by cases q) id
      subst hn
      exact o_ior hd k
    · cases h
  · split at h
    · cases h
      have hn : np = pc + 1 := hn.elim (fun q => by cases q) id
      subst hn
      exact o_ishl hd k
    · cases h
  · split at h
    · cases h
      have hn : np = pc + 1 := hn.elim (fun q => by cases q) id
      subst hn
      exact o_ishr hd k
    · cases h
  · split at h
    · cases h
      have hn : np = pc + 1 := hn.elim (fun q => by cases q) id
      subst hn
      exact o_idiv hc hd k
    · cases h
  · split at h
    · cases h
      have hn : np = pc + 1 := hn.elim (fun q => by cases q) id
      subst hn
      exact o_irem hc hd k
    · cases h
  · split at h
    · cases h
      have hn : np = pc + 1 := hn.elim (fun q => by cases q) id
      subst hn
      exact o_ladd hd k
    · cases h
  · split at h
    · cases h
      have hn : np = pc + 1 := hn.elim (fun q => by cases q) id
      subst hn
      exact o_lsub hd k
    · cases h
  · split at h
    · cases h
      have hn : np = pc + 1 := hn.elim (fun q => by cases q) id
      subst hn
      exact o_lmul hd k
    · cases h
  · split at h
    · cases h
      have hn : np = pc + 1 := hn.elim (fun q => by cases q) id
      subst hn
      exact o_land hd k
    · cases h
  · split at h
    · cases h
      have hn : np = pc + 1 := hn.elim (fun q => by cases q) id
      subst hn
      exact o_lor hd k
    · cases h
  · split at h
    · cases h
      have hn : np = pc + 1 := hn.elim (fun q => by cases q) id
      subst hn
      exact o_lcmp hd k
    · cases h
  · cases h
set_option maxHeartbeats 4000000 in
theorem semC_ok (hd : decode (byt y) pc = .ok (rl pc op v a b c np)) (hl : lkb y op v a b c = true) (hn : noN op = true ∨ np = pc + ln op v b) (hr : rok d mc ms z = true) (h : semC op v a ls st X = some r) (hc : allP r.2.2.2) (k : V y xt d mc ms wp z0 X0 QR QX z np r.1 r.2.1 r.2.2.1) : V y xt d mc ms wp z0 X0 QR QX z pc ls st X := by
  unfold semC at h
  split at h
  · split at h
    · cases h
      have hn : np = pc + 1 := hn.elim (fun q => by cases q) id
      subst hn
      exact o_lshl hd k
    · cases h
  · split at h
    · cases h
      have hn : np = pc + 1 := hn.elim (fun q => by cases q) id
      subst hn
      exact o_lshr hd k
    · cases h
  · split at h
    · cases h
      have hn : np = pc + 1 := hn.elim (fun q => by cases q) id
      subst hn
      exact o_i2l hd k
    · cases h
  · split at h
    · cases h
      have hn : np = pc + 1 := hn.elim (fun q => by cases q) id
      subst hn
      exact o_l2i hd k
    · cases h
  · split at h
    · cases h
      have hn : np = pc + 1 := hn.elim (fun q => by cases q) id
      subst hn
      exact o_i2b hd k
    · cases h
  · split at h
    · cases h
      have hn : np = pc + 1 := hn.elim (fun q => by cases q) id
      subst hn
      exact o_i2f hd k
    · cases h
  · split at h
    · cases h
      have hn : np = pc + 1 := hn.elim (fun q => by cases q) id
      subst hn
      exact o_i2d hd k
    · cases h
  · split at h
    · cases h
      have hn : np = pc + 1 := hn.elim (fun q => by cases q) id
      subst hn
      exact o_l2d hd k
    · cases h
  · split at h
    · cases h
      have hn : np = pc + 1 := hn.elim (fun q => by cases q) id
      subst hn
      exact o_f2d hc hd k
    · cases h
  · split at h
    · cases h
      have hn : np = pc + 1 := hn.elim (fun q => by cases q) id
      subst hn
      exact o_fdiv hc hd k
    · cases h
  · split at h
    · cases h
      have hn : np = pc + 1 := hn.elim (fun q => by cases q) id
      subst hn
      exact o_ddiv hc hd k
    · cases h
  · split at h
    · cases h
      have hn : np = pc + 1 := hn.elim (fun q => by cases q) id
      subst hn
      exact o_fcmpl hd k
    · cases h
  · split at h
    · cases h
      have hn : np = pc + 1 := hn.elim (fun q => by cases q) id
      subst hn
      exact o_dcmpl hd k
    · cases h
  · split at h
    · next w st2 =>
      cases hw : cat2 w with
      | true => rw [hw] at h; cases h
      | false =>
      rw [hw] at h
      cases h
      have hn : np = pc + 1 := hn.elim (fun q => by cases q) id
      subst hn
      exact o_pop hw hd k
    · cases h
  · cases h
    have hn : np = pc + 1 := hn.elim (fun q => by cases q) id
    subst hn
    exact o_lconst (Nat.lt_succ_of_le (Nat.le_of_ble_eq_true hl)) hd k
  · cases h
    have hn : np = pc + 3 := hn.elim (fun q => by cases q) id
    subst hn
    exact o_ldc2 (of_decide_eq_true hl) hd k
  · cases h
theorem cond_some {α : Type} {b : Bool} {r q : α} (h : cond b (some r) none = some q) : b = true ∧ some r = some q := by
  cases b with
  | false => cases h
  | true => exact ⟨rfl, h⟩
theorem shp_t {k t n : Nat} (h : shp k = (1, t, n)) : t < 6 := by
  have h1 : ∀ q ∈ shl, q.1 = 1 → q.2.1 < 6 := by decide +kernel
  unfold shp at h
  cases hb : Nat.ble 1000 k with
  | true =>
    rw [hb] at h
    have : t = 1 := by
      have := congrArg (fun q : Nat × Nat × Nat => q.2.1) h
      exact this.symm
    omega
  | false =>
    rw [hb] at h
    simp only [cond_false] at h
    by_cases hk : k < shl.length
    · have h2 : shl.getD k (9, 0, 0) ∈ shl := by
        rw [List.getD_eq_getElem?_getD, List.getElem?_eq_getElem hk]
        exact List.getElem_mem hk
      have h3 := h1 _ h2
      rw [h] at h3
      exact h3 rfl
    · rw [List.getD_eq_getElem?_getD, List.getElem?_eq_none (by omega)] at h
      cases h
theorem va_ldcSW {p : Program} {l : Launch} {e : Env} {R : Room} {s : State} {m : MethodId} {args : Array Value} {below : List Frame} {meth : Method} {c : Code} {H : Heap} {locs : List Loc} {cells slots pc : Nat} {Q : State → Prop} {ls : Array Slot} {rest : List Value} {cc : ByteArray} (hexec : p.tables.exec = Jvm.exec) (hb : c.code = cc) {own tx : String} {index q : Nat} (hown : s.vm.findClass own = some m.cls) (hZ : vk_R own index tx q s) (hdg : decode cc pc = .ok (.ldc_w index, 3))
    (k : W p l e R s m args below meth c H locs cells slots Q (F0 m (pc + 3) ls (.ref q :: rest))) : W p l e R s m args below meth c H locs cells slots Q (F0 m pc ls rest) := by
  intro T hT X
  obtain ⟨t, a1, b1⟩ := k T hT X
  refine ⟨t, ?_, b1⟩
  obtain ⟨k, cf, i, a', hk, hcf, hcp, -, hr, hev'⟩ := Cond.stringRef_spec hown hZ.1
  cases hZ.2.symm.trans hev'
  obtain ⟨k', hk', he⟩ := X.warmed.alike.2.2 _ _ hk
  have hr' : k'.resolved[index]? = some (some (.string q)) := by
    rcases X.warmed.entry hk hk' index with h | ⟨h, -⟩
    · rw [h]; exact hr
    · rw [hr] at h; cases h
  jvm_step X.here [hexec, hb, hdg, ldc_w.wp_string (e := e) (s := T) (f := F0 m pc ls rest) X.here.top hk' (by rw [he]; exact hcf) hcp hr']
  exact a1
theorem o_ldc (h1 : (stl[b]?).map (fun q => (q.1, q.2.1)) = some (cid y, a)) (h2 : dxl.getD b 0 = c) (h3 : c < txn) (hd : decode (byt y) pc = .ok (.ldc a, 2)) (k : V y xt d mc ms wp z0 X0 QR QX z (pc + 2) ls (aS c :: st) X) : V y xt d mc ms wp z0 X0 QR QX z pc ls st X := by
  intro l G ad0 p e s m args below meth c0 C ad H locs cells slots la U hl ol os
  obtain ⟨q, hq, e1⟩ := Option.map_eq_some_iff.mp h1
  have hR := C.2.2.2.2.2.2.2.2.2.2.1.2.1 b q hq
  rw [h2, show q.1 = cid y from congrArg Prod.fst e1, show q.2.1 = a from congrArg Prod.snd e1] at hR
  exact va_ldcS C.1 C.2.1 C.2.2.2.1 hR hd (k l G ad0 p e s m args below meth c0 C ad H locs cells slots la U hl ol (oks_c h3 os))
theorem o_ldcw (h1 : (stl[b]?).map (fun q => (q.1, q.2.1)) = some (cid y, a)) (h2 : dxl.getD b 0 = c) (h3 : c < txn) (hd : decode (byt y) pc = .ok (.ldc_w a, 3)) (k : V y xt d mc ms wp z0 X0 QR QX z (pc + 3) ls (aS c :: st) X) : V y xt d mc ms wp z0 X0 QR QX z pc ls st X := by
  intro l G ad0 p e s m args below meth c0 C ad H locs cells slots la U hl ol os
  obtain ⟨q, hq, e1⟩ := Option.map_eq_some_iff.mp h1
  have hR := C.2.2.2.2.2.2.2.2.2.2.1.2.1 b q hq
  rw [h2, show q.1 = cid y from congrArg Prod.fst e1, show q.2.1 = a from congrArg Prod.snd e1] at hR
  exact va_ldcSW C.1 C.2.1 C.2.2.2.1 hR hd (k l G ad0 p e s m args below meth c0 C ad H locs cells slots la U hl ol (oks_c h3 os))
set_option maxHeartbeats 4000000 in
theorem semD_ok (hd : decode (byt y) pc = .ok (rl pc op v a b c np)) (hl : lkb y op v a b c = true) (hn : noN op = true ∨ np = pc + ln op v b) (hr : rok d mc ms z = true) (h : semD wp z op b c ls st X = some r) (hc : allP r.2.2.2) (k : V y xt d mc ms wp z0 X0 QR QX z np r.1 r.2.1 r.2.2.1) : V y xt d mc ms wp z0 X0 QR QX z pc ls st X := by
  unfold semD at h
  split at h
  · cases h
    have hn : np = pc + 1 := hn.elim (fun q => by cases q) id
    subst hn
    exact o_fconst hd k
  · cases h
    have hn : np = pc + 1 := hn.elim (fun q => by cases q) id
    subst hn
    exact o_dconst hd k
  · split at h
    · next k9 i9 st2 =>
      split at h
      · next c9 n9 hs =>
        cases hb : (Nat.beq c9 c && Nat.ble (b + 1) n9) with
        | false => rw [hb] at h; cases h
        | true =>
        rw [hb] at h
        simp only [cond_true] at h
        obtain ⟨hb1, hb2⟩ := Bool.and_eq_true_iff.mp hb
        have hb1 := Nat.eq_of_beq_eq_true hb1
        subst hb1
        have hb2 := Nat.le_of_ble_eq_true hb2
        have hl := of_decide_eq_true hl
        have hn : np = pc + 3 := hn.elim (fun q => by cases q) id
        subst hn
        split at h
        · next hf =>
          cases h
          exact o_get (v := aI (gI X k9 i9 b)) hl hs hb2 (fun G ad => by simp only [fv, hf]; rfl) (fun _ _ _ _ _ => trivial) hd k
        · next hf =>
          cases h
          exact o_get (v := aI (gI X k9 i9 b)) hl hs hb2 (fun G ad => by simp only [fv, hf]; rfl) (fun _ _ _ _ _ => trivial) hd k
        · next hf =>
          cases h
          exact o_get (v := aJ (gJ X k9 i9 b)) hl hs hb2 (fun G ad => by simp only [fv, hf]; rfl) (fun _ _ _ _ _ => trivial) hd k
        · next hf =>
          split at h
          · next k8 i8 hq =>
            cases h
            exact o_get (v := aR k8 i8) hl hs hb2 (fun G ad => by simp only [fv, hf, hq]; rfl) (fun G ad H hp hi => hp.2.2.2.2 _ _ _ _ hi (by rw [aln_o hs]; exact hb2) hq) hd k
          · cases h
        · next hf =>
          cases h
          exact o_get (v := aI (gI X k9 i9 b)) hl hs hb2 (fun G ad => by simp only [fv, hf]; rfl) (fun _ _ _ _ _ => trivial) hd k
        · cases h
      · cases h
    · cases h
  · split at h
    · next v9 k9 i9 st2 =>
      split at h
      · next c9 n9 hs =>
        cases hb : (Nat.beq c9 c && Nat.ble (b + 1) n9) with
        | false => rw [hb] at h; cases h
        | true =>
        rw [hb] at h
        simp only [cond_true] at h
        obtain ⟨hb1, hb2⟩ := Bool.and_eq_true_iff.mp hb
        have hb1 := Nat.eq_of_beq_eq_true hb1
        subst hb1
        have hb2 := Nat.le_of_ble_eq_true hb2
        obtain ⟨hl1, hl2⟩ := Bool.and_eq_true_iff.mp hl
        have hl1 := of_decide_eq_true hl1
        have hn : np = pc + 3 := hn.elim (fun q => by cases q) id
        subst hn
        split at h
        · next x9 hf =>
          cases h
          have hfin : ((vck c9).2.1 b).2.2.2 = false := by
            rcases Bool.or_eq_true_iff.mp hl2 with q | q
            · rw [hf] at q; cases q
            · exact of_decide_eq_true q
          have hty := vft_ok c9 (FLd_ok _ hl1).2 b (FLd_ok _ hl1).1
          rw [hf] at hty
          have hty : vty c9 b = .int := by
            rcases hty with ⟨q, q2⟩ | ⟨q, q2⟩ | ⟨q, q2⟩ | ⟨q, q2⟩ <;> first | exact q2 | exact absurd q (by decide)
          exact o_put hl1 hs hb2 hfin hc (fun k' i' h j' => uI_off h j') (fun G ad => by simp only [fv, hf]; rw [uI_upd]; simp [upd, cv]) (fun ad j hj => by simp only [fv]; rw [uI_upd]; simp [upd, hj, show gJ (uI X k9 i9 b _) k9 i9 j = gJ X k9 i9 j from rfl]) (fun G ad => by rw [hty]; rfl) (fun G ad => by rw [hty]; rfl) hd k
        · next x9 hf =>
          cases h
          have hfin : ((vck c9).2.1 b).2.2.2 = false := by
            rcases Bool.or_eq_true_iff.mp hl2 with q | q
            · rw [hf] at q; cases q
            · exact of_decide_eq_true q
          have hty := vft_ok c9 (FLd_ok _ hl1).2 b (FLd_ok _ hl1).1
          rw [hf] at hty
          have hty : vty c9 b = .boolean := by
            rcases hty with ⟨q, q2⟩ | ⟨q, q2⟩ | ⟨q, q2⟩ | ⟨q, q2⟩ <;> first | exact q2 | exact absurd q (by decide)
          exact o_put hl1 hs hb2 hfin hc.1 (fun k' i' h j' => uI_off h j') (fun G ad => by simp only [fv, hf]; rw [uI_upd]; simp [upd, cv]) (fun ad j hj => by simp only [fv]; rw [uI_upd]; simp [upd, hj, show gJ (uI X k9 i9 b _) k9 i9 j = gJ X k9 i9 j from rfl]) (fun G ad => by rw [hty]; rcases hc.2 with q | q <;> (subst q; rfl)) (fun G ad => by rw [hty]; rcases hc.2 with q | q <;> (subst q; rfl)) hd k
        · next x9 hf =>
          cases h
          have hfin : ((vck c9).2.1 b).2.2.2 = false := by
            rcases Bool.or_eq_true_iff.mp hl2 with q | q
            · rw [hf] at q; cases q
            · exact of_decide_eq_true q
          have hty := vft_ok c9 (FLd_ok _ hl1).2 b (FLd_ok _ hl1).1
          rw [hf] at hty
          have hty : vty c9 b = .long := by
            rcases hty with ⟨q, q2⟩ | ⟨q, q2⟩ | ⟨q, q2⟩ | ⟨q, q2⟩ <;> first | exact q2 | exact absurd q (by decide)
          exact o_put hl1 hs hb2 hfin hc (fun k' i' h j' => uJ_off h j') (fun G ad => by simp only [fv, hf]; rw [uJ_upd]; simp [vp_updL, cv]) (fun ad j hj => by simp only [fv]; rw [uJ_upd]; simp [vp_updL, hj, show gI (uJ X k9 i9 b _) k9 i9 j = gI X k9 i9 j from rfl]) (fun G ad => by rw [hty]; rfl) (fun G ad => by rw [hty]; rfl) hd k
        · cases h
      · cases h
    · cases h
  · split at h
    · split at h
      · next hs =>
        cases h
        have hn : np = pc + 1 := hn.elim (fun q => by cases q) id
        subst hn
        exact o_iaload hs hc hd k
      · obtain ⟨h9, h⟩ := cond_some h
        have h9 := Nat.eq_of_beq_eq_true h9
        subst h9
        cases h
        have hn : np = pc + 1 := hn.elim (fun q => by cases q) id
        subst hn
        exact o_sload hc hd k
      · cases h
    · cases h
  · split at h
    · split at h
      · next hs =>
        cases h
        have hn : np = pc + 1 := hn.elim (fun q => by cases q) id
        subst hn
        exact o_iastore hs hc.1 hc.2 hd k
      · cases h
    · cases h
  · split at h
    · split at h
      · next hs =>
        cases h
        have hn : np = pc + 1 := hn.elim (fun q => by cases q) id
        subst hn
        exact o_baload hs hc hd k
      · cases h
    · cases h
  · split at h
    · split at h
      · next hs =>
        cases h
        have hn : np = pc + 1 := hn.elim (fun q => by cases q) id
        subst hn
        exact o_bastore hs hc.1 hc.2 hd k
      · cases h
    · cases h
  · split at h
    · split at h
      · next hs =>
        cases h
        have hn : np = pc + 1 := hn.elim (fun q => by cases q) id
        subst hn
        exact o_laload hs hc hd k
      · cases h
    · cases h
  · split at h
    · split at h
      · next hs =>
        cases h
        have hn : np = pc + 1 := hn.elim (fun q => by cases q) id
        subst hn
        exact o_lastore hs hc.1 hc.2 hd k
      · cases h
    · cases h
  · split at h
    · split at h
      · next hs =>
        cases h
        have hn : np = pc + 1 := hn.elim (fun q => by cases q) id
        subst hn
        exact o_daload hs hc hd k
      · cases h
    · cases h
  · split at h
    · split at h
      · next hs =>
        cases h
        have hn : np = pc + 1 := hn.elim (fun q => by cases q) id
        subst hn
        exact o_dastore hs hc.1 hc.2 hd k
      · cases h
    · cases h
  · split at h
    · split at h
      · next hs =>
        split at h
        · next hq =>
          cases h
          have hn : np = pc + 1 := hn.elim (fun q => by cases q) id
          subst hn
          exact o_aaload4 hs hc hq hd k
        · cases h
      · next hs =>
        split at h
        · next hq =>
          cases h
          have hn : np = pc + 1 := hn.elim (fun q => by cases q) id
          subst hn
          exact o_aaload5 hs hc hq hd k
        · cases h
      · cases h
    · cases h
  · split at h
    · next k9 i9 st2 =>
      split at h
      · next t9 n9 hs =>
        cases h
        have hn : np = pc + 1 := hn.elim (fun q => by cases q) id
        subst hn
        exact o_arraylength hs (shp_t hs) hd k
      · obtain ⟨h9, h⟩ := cond_some h
        have h9 := Nat.eq_of_beq_eq_true h9
        subst h9
        cases h
        have hn : np = pc + 1 := hn.elim (fun q => by cases q) id
        subst hn
        exact o_scln hd k
      · cases h
    · cases h
  · cases h
    exact o_goto hd k
  · cases h
    obtain ⟨h1, h2⟩ := Bool.and_eq_true_iff.mp hl
    obtain ⟨h2, h3⟩ := Bool.and_eq_true_iff.mp h2
    have h1 : (stl[b]?).map (fun q => (q.1, q.2.1)) = some (cid y, a) := of_decide_eq_true h1
    have h2 := Nat.eq_of_beq_eq_true h2
    cases hv : decide (v = 1) with
    | true =>
      simp only [rl, hv, cond_true] at hd
      have hn : np = pc + 3 := hn.elim (fun q => by cases q) (fun q => by simpa [ln, hv] using q)
      subst hn
      exact o_ldcw h1 h2 (Nat.lt_of_succ_le (Nat.le_of_ble_eq_true h3)) hd k
    | false =>
      simp only [rl, hv, cond_false] at hd
      have hn : np = pc + 2 := hn.elim (fun q => by cases q) (fun q => by simpa [ln, hv] using q)
      subst hn
      exact o_ldc h1 h2 (Nat.lt_of_succ_le (Nat.le_of_ble_eq_true h3)) hd k
  · cases h
set_option maxHeartbeats 4000000 in
theorem semE_ok (hd : decode (byt y) pc = .ok (rl pc op v a b c np)) (hl : lkb y op v a b c = true) (hn : noN op = true ∨ np = pc + ln op v b) (hr : rok d mc ms z = true) (h : semE wp z op v ls st X = some r) (hc : allP r.2.2.2) (k : V y xt d mc ms wp z0 X0 QR QX z np r.1 r.2.1 r.2.2.1) : V y xt d mc ms wp z0 X0 QR QX z pc ls st X := by
  unfold semE at h
  split at h
  · cases h
    have hn : np = pc + 2 := hn.elim (fun q => by cases q) id
    subst hn
    exact o_ldcI (of_decide_eq_true hl) hd k
  · split at h
    · cases h
      have hn : np = pc + 1 := hn.elim (fun q => by cases q) id
      subst hn
      exact o_i2c hd k
    · cases h
  · split at h
    · next w9 u9 st2 =>
      cases hw9 : cat2 w9 with
      | true => rw [hw9] at h; cases h
      | false =>
      cases hu9 : cat2 u9 with
      | true => rw [hw9, hu9] at h; cases h
      | false =>
      rw [hw9, hu9] at h
      cases h
      have hn : np = pc + 1 := hn.elim (fun q => by cases q) id
      subst hn
      exact o_dup_x1 hw9 hu9 hd k
    · cases h
  · split at h
    · next q9 st2 =>
      cases hb : Nat.ble st2.length 12 with
      | false => rw [hb] at h; cases h
      | true =>
      rw [hb] at h
      cases h
      have hb := Nat.le_of_ble_eq_true hb
      have hn : np = pc + 3 := hn.elim (fun q => by cases q) id
      subst hn
      exact o_objInit (of_decide_eq_true hl) hr hb hd k
    · cases h
  · split at h
    · next y9 x9 st2 =>
      cases hb : Nat.ble st2.length 12 with
      | false => rw [hb] at h; cases h
      | true =>
      rw [hb] at h
      cases h
      have hb := Nat.le_of_ble_eq_true hb
      have hn : np = pc + 3 := hn.elim (fun q => by cases q) id
      subst hn
      exact o_min (of_decide_eq_true hl) hr hb hd k
    · cases h
  · split at h
    · next y9 x9 st2 =>
      cases hb : Nat.ble st2.length 12 with
      | false => rw [hb] at h; cases h
      | true =>
      rw [hb] at h
      cases h
      have hb := Nat.le_of_ble_eq_true hb
      have hn : np = pc + 3 := hn.elim (fun q => by cases q) id
      subst hn
      exact o_max (of_decide_eq_true hl) hr hb hd k
    · cases h
  · split at h
    · next n9 d9 k9 i9 s9 k8 i8 st2 =>
      cases hb : Nat.ble st2.length 2 with
      | false => rw [hb] at h; cases h
      | true =>
      rw [hb] at h
      simp only [cond_true] at h
      have hb := Nat.le_of_ble_eq_true hb
      have hn : np = pc + 3 := hn.elim (fun q => by cases q) id
      subst hn
      split at h
      · next hs1 hs2 =>
        cases h
        exact o_copyI (of_decide_eq_true hl) hr hb hs1 hs2 hc.1 hc.2.1 hc.2.2.1 hc.2.2.2.1 hc.2.2.2.2.1 hc.2.2.2.2.2 hd k
      · next hs1 hs2 =>
        cases h
        exact o_copyJ (of_decide_eq_true hl) hr hb hs1 hs2 hc.1 hc.2.1 hc.2.2.1 hc.2.2.2.1 hc.2.2.2.2.1 hc.2.2.2.2.2 hd k
      · cases h
    · cases h
  · split at h
    · next j9 st2 =>
      cases hb : Nat.ble st2.length 4 with
      | false => rw [hb] at h; cases h
      | true =>
      rw [hb] at h
      cases h
      have hb := Nat.le_of_ble_eq_true hb
      have hn : np = pc + 3 := hn.elim (fun q => by cases q) id
      subst hn
      exact o_slen (of_decide_eq_true hl) hr hb hd k
    · cases h
  · split at h
    · next y9 j9 st2 =>
      cases hb : Nat.ble st2.length 4 with
      | false => rw [hb] at h; cases h
      | true =>
      rw [hb] at h
      cases h
      have hb := Nat.le_of_ble_eq_true hb
      have hn : np = pc + 3 := hn.elim (fun q => by cases q) id
      subst hn
      exact o_schr (of_decide_eq_true hl) hr hb hc hd k
    · cases h
  · cases h
theorem sem_ok (hd : decode (byt y) pc = .ok (rl pc op v a b c np)) (hl : lkb y op v a b c = true) (hn : noN op = true ∨ np = pc + ln op v b) (hr : rok d mc ms z = true) (h : sem wp z op v a b c ls st X = some r) (hc : allP r.2.2.2) (k : V y xt d mc ms wp z0 X0 QR QX z np r.1 r.2.1 r.2.2.1) : V y xt d mc ms wp z0 X0 QR QX z pc ls st X := by
  unfold sem at h
  cases h1 : Nat.ble op 31 with
  | true =>
    rw [h1] at h
    cases h2 : Nat.ble op 15 with
    | true => rw [h2] at h; exact semA_ok hd hl hn hr h hc k
    | false => rw [h2] at h; exact semB_ok hd hl hn hr h hc k
  | false =>
    rw [h1] at h
    cases h2 : Nat.ble op 47 with
    | true => rw [h2] at h; exact semC_ok hd hl hn hr h hc k
    | false =>
      rw [h2] at h
      cases h3 : Nat.ble op 63 with
      | true => rw [h3] at h; exact semD_ok hd hl hn hr h hc k
      | false => rw [h3] at h; exact semE_ok hd hl hn hr h hc k
end SEM
