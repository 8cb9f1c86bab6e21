/-! rows are copied and cloned, texts are read (printed by wip/p53/new/xe.py) -/
section CB
variable {y : Nat} {xt : List ExceptionTableEntry} {d mc ms : Nat} {wp : Nat → Nat → Prop} {z0 : Zz} {X0 : Mm} {QR : Option Av → Zz → Mm → Prop} {QX : Nat → Zz → Mm → Prop} {z : Zz} {pc : Nat} {ls : Lo} {st : List Av} {X : Mm}
theorem o_copyB {q ks is n0 kd id n1 : Nat} {sp dp n : Int32} (h0 : (cid y, q) ∈ CPd) (hr : rok d mc ms z = true) (hs : st.length ≤ 2) (hk0 : shp ks = (1, 1, n0)) (hk1 : shp kd = (1, 1, n1)) (hf9 : ∀ i, i < ix n → fits .byte (.int (gI X ks is (ix sp + i))) = true) (h68 : Nat.beq ks 68 = false) (h69 : Nat.beq kd 68 = false) (h1 : ¬ sp < 0) (h2 : ¬ dp < 0) (h3 : ¬ n < 0) (h4 : ix sp + ix n ≤ aln z ks) (h5 : ix dp + ix n ≤ aln z kd) (hw : wp kd id)
    (hd : decode (byt y) pc = .ok (.invokestatic q, 3)) (kk : V y xt d mc ms wp z0 X0 QR QX z (pc + 3) ls st (cI X ks is (ix sp) kd id (ix dp) (ix n))) : V y xt d mc ms wp z0 X0 QR QX z pc ls (aI n :: aI dp :: aR kd id :: aI sp :: aR ks is :: st) X := by
  intro l G ad0 p e s m args below meth c0 C ad H locs cells slots la U hl ol os
  obtain ⟨r1, r2, r3⟩ := rok_of hr
  have hsum := cat_sum G ad st
  have hnw := nfw
  have hi0 : is < z.1 ks := oks_h (oks_t (oks_t (oks_t (oks_t os))))
  have hi1 : id < z.1 kd := oks_h (oks_t (oks_t os))
  have hP0 := (U.1.1 ks is hi0).1 h68
  rw [cel_a hk0] at hP0
  have hP1 := (U.1.1 kd id hi1).1 h69
  rw [cel_a hk1] at hP1
  have hc0 : H[ad ks is]? = some (arrV (G.2.1 1) (aln z ks) (fun q => .int (gI X ks is q))) := hP0
  have hc1 : H[ad kd id]? = some (arrV (G.2.1 1) (aln z kd) (fun q => .int (gI X kd id q))) := hP1
  have hT9 := (C.2.2.2.2.2.2.2.2.2.2.1.1.2 1 _ rfl).1
  obtain ⟨-, k0, hkk0, cm0, hkk0'⟩ := hT9 (aln z ks) (fun q => .int (gI X ks is q))
  obtain ⟨-, k1, hkk1, cm1, hkk1'⟩ := hT9 (aln z kd) (fun q => .int (gI X kd id q))
  have hhl : ad kd id < H.size := (Array.getElem?_eq_some_iff.mp hc1).1
  refine W.of (H' := H.setIfInBounds (ad kd id) (arrV (G.2.1 1) (aln z kd) (fun q => .int (va_cpy (gI X ks is) (gI X kd id) (ix sp) (ix dp) (ix n) q)))) (g2 := F0 m (pc + 3) la (st.map (cv G ad))) (locs' := _) (cells' := cells) (slots' := slots) (fun T hT Y => ?_) (kk l G ad0 p e s m args below meth c0 C ad _ _ cells slots la (U.store hi1 h69 hw _ (fun k' i' h j' => cI_off h j') ?_ (by simp) (fun q hq => by simp [Array.getElem?_setIfInBounds, Ne.symm hq]) (l2 := (((arrV (G.2.1 1) (aln z ks) (fun q => Value.int (gI X ks is q))).stretch sp.toNatClampNeg n.toNatClampNeg).zipIdx.map (fun q => ⟨ad kd id, dp.toNatClampNeg + q.2⟩))) (fun q hq => by obtain ⟨z9, -, e9⟩ := List.mem_map.mp hq; rw [← e9])) hl ol (oks_t (oks_t (oks_t (oks_t (oks_t os))))))
  · obtain ⟨vm', X', step⟩ := Y.arraycopy C.1 C.2.2.2.1 (C.2.2.2.2.1 _ (CPd_in _ h0)) (C.2.2.2.2.1 _ fx_cpN) (C.2.2.2.2.1 _ fx_cpS) (C.2.2.2.2.1 _ fx_cpI) (src := ad ks is) (dst := ad kd id) (srcPos := sp) (destPos := dp) (n := n) (by rw [hT]; exact hc0) (by rw [hT]; exact hc1)
      (fun _ h => by cases h) (fun _ h => by cases h) (fun h => by cases h) (fun h => by cases h) hkk0 hkk1 hkk0' hkk1' (by show (refKind (aty 1) != refKind (aty 1) || (!refKind (aty 1) && aty 1 != aty 1)) = false; decide) h1 h2 h3
      (by rw [nn_toInt h1, nn_toInt h3, arrV_size]; have := h4; simp only [ix] at this; omega)
      (by rw [nn_toInt h2, nn_toInt h3, arrV_size]; have := h5; simp only [ix] at this; omega)
      (fun vm₁ _ i hi => by
        have e : (arrV (G.2.1 1) (aln z ks) (fun q => Value.int (gI X ks is q))).slots.getD (sp.toNatClampNeg + i) .null = .int (gI X ks is (sp.toNatClampNeg + i)) := by
          rw [Array.getD_eq_getD_getElem?, arrV_read _ _ (by have := h4; simp only [ix] at this; omega)]
          rfl
        refine ⟨?_, ?_⟩
        · rw [e]
          exact hf9 i hi
        · rw [e]
          exact trivial)
      (g := F0 m pc la (.int n :: .int dp :: .ref (ad kd id) :: .int sp :: .ref (ad ks is) :: st.map (cv G ad))) rfl (hl.1.trans C.2.2.1.symm) (rest := st.map (cv G ad)) rfl (by rw [C.2.1]; exact hd) (by show 1 ≤ d; omega) (by show 2 * 0 + _ + _ ≤ 40 * d; omega)
    have e1 : copied (arrV (G.2.1 1) (aln z ks) (fun q => .int (gI X ks is q))) (arrV (G.2.1 1) (aln z kd) (fun q => .int (gI X kd id q))) sp dp n = arrV (G.2.1 1) (aln z kd) (fun q => .int (va_cpy (gI X ks is) (gI X kd id) (ix sp) (ix dp) (ix n) q)) := va_copied (fun z => .int z) _ _ _ _ h4
    rw [e1] at X' step
    refine ⟨_, ?_, X', step⟩
    rw [← hT]
    rfl
  · rw [cel_a hk1]
    show (H.setIfInBounds (ad kd id) _)[ad kd id]? = some (arrV (G.2.1 1) (aln z kd) (fun q => .int (gI (cI X ks is (ix sp) kd id (ix dp) (ix n)) kd id q)))
    rw [cI_cpy]
    simp [Array.getElem?_setIfInBounds, hhl]
theorem Cu.growX {G : Gp} {ad0 ad : Nat → Nat → Nat} {wp : Nat → Nat → Prop} {z0 z : Zz} {X0 X : Mm} {s : State} {H H1 : Heap} {locs : List Loc} {cells slots : Nat} (U : Cu G ad0 wp z0 X0 s ad z X H locs cells slots) (k n : Nat) (X' : Mm) (hX : ∀ a b, ¬ (a = k ∧ b = z.1 k) → ∀ j, gI X' a b j = gI X a b j ∧ gJ X' a b j = gJ X a b j ∧ gD X' a b j = gD X a b j) (hwk : wp k (z.1 k)) (hne : z.1 ≠ nF) (hz1 : H1.size = H.size + 1) (ho : ∀ q : Nat, q < H.size → H1[q]? = H[q]?) (h6 : Nat.beq k 68 = false) (e : va_at G.1 vcl (H.size, cel G (adN ad z k H.size) (zN z k n) X' k (z.1 k)) H1) :
    Cu G ad0 wp z0 X0 s (adN ad z k H.size) (zN z k n) X' H1 locs (cells + 1) (slots + n) := by
  obtain ⟨⟨h1, h2, h3, h4, h5⟩, hdf, hold, hnew, hag, hS, hc, hs, hL, hA⟩ := U
  have hD := hdf.resolve_left hne
  have hlt : ∀ a b, b < z.1 a → ad a b < H.size := fun a b hb => (h1 a b hb).lt
  have hoff : ∀ a b, b < z.1 a → ¬ (a = k ∧ b = z.1 k) := fun a b hb q => by
    obtain ⟨rfl, rfl⟩ := q
    omega
  refine ⟨⟨fun a b hb => ?_, fun a b a' b' hb hb' he => ?_, fun a b hb ha => ?_, by omega, fun a b j q hb hj hq => ?_⟩, Or.inr fun a b hb j => ?_, fun a b hb => ?_, fun a b hb1 hb2 => ?_, fun a b hn j => ?_, ⟨by have := hS.1; omega, fun x g1 g2 => (ho x (Nat.lt_of_lt_of_le g1 hS.1)).trans (hS.2.1 x g1 g2), hS.2.2⟩, Nat.succ_le_succ hc, Nat.add_le_add_right hs n, hL, hA⟩
  · rcases zN_lt.mp hb with q | ⟨rfl, rfl⟩
    · rw [adN_old q]
      refine cat.ext (z := z) (ad := ad) (X := X) rfl (fun j hj => ⟨(hX a b (hoff a b q) j).1, (hX a b (hoff a b q) j).2.1, (hX a b (hoff a b q) j).2.2, ?_⟩) ((h1 a b q).kept (ho _ (hlt a b q)))
      show adq (adN ad z k H.size) ((zN z k n).2.1 a b j) = adq ad (z.2.1 a b j)
      rw [zN_ro q]
      cases hr : z.2.1 a b j with
      | none => rfl
      | some r => exact congrArg some (adN_old (h5 a b j r q hj hr))
    · rw [adN_new]; exact .of h6 e
  · rcases zN_lt.mp hb with q | ⟨rfl, rfl⟩
    · rcases zN_lt.mp hb' with q' | ⟨rfl, rfl⟩
      · rw [adN_old q, adN_old q'] at he
        exact h2 a b a' b' q q' he
      · rw [adN_old q, adN_new] at he
        exact absurd (hlt a b q) (by omega)
    · rcases zN_lt.mp hb' with q' | ⟨rfl, rfl⟩
      · rw [adN_new, adN_old q'] at he
        exact absurd (hlt a' b' q') (by omega)
      · exact ⟨rfl, rfl⟩
  · rcases zN_lt.mp hb with q | ⟨rfl, rfl⟩
    · rw [adN_old q]; exact h3 a b q ha
    · rw [adN_new]; exact h4
  · rcases zN_lt.mp hb with g | ⟨rfl, rfl⟩
    · rw [zN_ro g] at hq
      exact zN_lt.mpr (Or.inl (h5 a b j q g hj hq))
    · rw [zN_rn] at hq
      cases hq
  · have hb2 : z.1 a ≤ b := Nat.le_of_not_lt fun q => absurd (zN_lt.mpr (Or.inl q)) (Nat.not_lt.mpr hb)
    have hk2 : ¬ (a = k ∧ b = z.1 k) := fun q => absurd (zN_lt.mpr (Or.inr q)) (Nat.not_lt.mpr hb)
    obtain ⟨e1, e2, e3⟩ := hX a b hk2 j
    rw [e1, e2, e3]
    exact hD a b hb2 j
  · obtain ⟨g1, g2⟩ := hold a b hb
    rw [adN_old g2]
    exact ⟨g1, zN_lt.mpr (Or.inl g2)⟩
  · rcases zN_lt.mp hb2 with q | ⟨rfl, rfl⟩
    · rw [adN_old q]; exact hnew a b hb1 q
    · rw [adN_new]; exact hS.1
  · have hk2 : ¬ (a = k ∧ b = z.1 k) := fun q => hn (by rw [q.1, q.2]; exact hwk)
    obtain ⟨e1, e2, e3⟩ := hX a b hk2 j
    rw [e1, e2, e3]
    exact hag a b hn j
def cT (X : Mm) (j kd id sp dp n : Nat) : Mm := (fun a b c => if a = kd ∧ b = id then va_cpy (schr j) (X.1 kd id) sp dp n c else X.1 a b c, X.2)
theorem cT_off {X : Mm} {j k i sp dp n : Nat} {k' i' : Nat} (h : ¬ (k' = k ∧ i' = i)) (j' : Nat) : gI (cT X j k i sp dp n) k' i' j' = gI X k' i' j' ∧ gJ (cT X j k i sp dp n) k' i' j' = gJ X k' i' j' ∧ gD (cT X j k i sp dp n) k' i' j' = gD X k' i' j' :=
  ⟨if_neg h, rfl, rfl⟩
theorem cT_cpy {X : Mm} {j k i sp dp n : Nat} : gI (cT X j k i sp dp n) k i = va_cpy (schr j) (gI X k i) sp dp n := by
  funext q
  show (if k = k ∧ i = i then va_cpy (schr j) (X.1 k i) sp dp n q else X.1 k i q) = _
  simp
  rfl
theorem o_copyT {q j kd id n1 : Nat} {sp dp n : Int32} (h0 : (cid y, q) ∈ CPd) (hr : rok d mc ms z = true) (hs : st.length ≤ 2) (hj : j < txn) (hk1 : shp kd = (1, 1, n1)) (hf9 : ∀ i, i < slen j → fits .byte (.int (schr j i)) = true) (h69 : Nat.beq kd 68 = false) (h1 : ¬ sp < 0) (h2 : ¬ dp < 0) (h3 : ¬ n < 0) (h4 : ix sp + ix n ≤ slen j) (h5 : ix dp + ix n ≤ aln z kd) (hw : wp kd id)
    (hd : decode (byt y) pc = .ok (.invokestatic q, 3)) (kk : V y xt d mc ms wp z0 X0 QR QX z (pc + 3) ls st (cT X j kd id (ix sp) (ix dp) (ix n))) : V y xt d mc ms wp z0 X0 QR QX z pc ls (aI n :: aI dp :: aR kd id :: aI sp :: aX (3 + j) :: st) X := by
  intro l G ad0 p e s m args below meth c0 C ad H locs cells slots la U hl ol os
  obtain ⟨r1, r2, r3⟩ := rok_of hr
  have hsum := cat_sum G ad st
  have hnw := nfw
  have hi1 : id < z.1 kd := oks_h (oks_t (oks_t os))
  have hP1 := (U.1.1 kd id hi1).1 h69
  rw [cel_a hk1] at hP1
  have hc1 : H[ad kd id]? = some (arrV (G.2.1 1) (aln z kd) (fun q => .int (gI X kd id q))) := hP1
  have hKd := ((C.2.2.2.2.2.2.2.2.2.2.2).2.2.2.2.2.2.2 j hj).2
  obtain ⟨scr, hs1, hs2, hs3, hs4, -, hs5, hs7⟩ := hKd
  have hc0 : H[G.2.2.1 (txn + (3 + j))]? = some scr := by
    rw [(va_Sw U.2.2.2.2.2.1 U.2.2.2.2.2.2.2.2.2).2.1 _ (Array.getElem?_eq_some_iff.mp hs1).1 hs7]; exact hs1
  have hcv : cv G ad (aX (3 + j)) = .ref (G.2.2.1 (txn + (3 + j))) := by
    show cond (Nat.beq (3 + j) 0) Value.null (.ref (G.2.2.1 (txn + (3 + j)))) = _
    rw [beq_ne (by omega : 3 + j ≠ 0)]
    rfl
  have hT9 := (C.2.2.2.2.2.2.2.2.2.2.1.1.2 1 _ rfl).1
  obtain ⟨hs6, k0, hkk0, cm0, hkk0'⟩ := hs2
  obtain ⟨-, k1, hkk1, cm1, hkk1'⟩ := hT9 (aln z kd) (fun q => .int (gI X kd id q))
  have hhl : ad kd id < H.size := (Array.getElem?_eq_some_iff.mp hc1).1
  show W p l e (rmm d mc ms) s m args below meth c0 H locs cells slots _ (F0 m pc la (.int n :: .int dp :: .ref (ad kd id) :: .int sp :: cv G ad (aX (3 + j)) :: st.map (cv G ad)))
  rw [hcv]
  refine W.of (H' := H.setIfInBounds (ad kd id) (arrV (G.2.1 1) (aln z kd) (fun q => .int (va_cpy (schr j) (gI X kd id) (ix sp) (ix dp) (ix n) q)))) (g2 := F0 m (pc + 3) la (st.map (cv G ad))) (locs' := _) (cells' := cells) (slots' := slots) (fun T hT Y => ?_) (kk l G ad0 p e s m args below meth c0 C ad _ _ cells slots la (U.store hi1 h69 hw _ (fun k' i' h j' => cT_off h j') ?_ (by simp) (fun q hq => by simp [Array.getElem?_setIfInBounds, Ne.symm hq]) (l2 := ((scr.stretch sp.toNatClampNeg n.toNatClampNeg).zipIdx.map (fun q => ⟨ad kd id, dp.toNatClampNeg + q.2⟩))) (fun q hq => by obtain ⟨z9, -, e9⟩ := List.mem_map.mp hq; rw [← e9])) hl ol (oks_t (oks_t (oks_t (oks_t (oks_t os))))))
  · obtain ⟨vm', X', step⟩ := Y.arraycopy C.1 C.2.2.2.1 (C.2.2.2.2.1 _ (CPd_in _ h0)) (C.2.2.2.2.1 _ fx_cpN) (C.2.2.2.2.1 _ fx_cpS) (C.2.2.2.2.1 _ fx_cpI) (src := G.2.2.1 (txn + (3 + j))) (dst := ad kd id) (srcPos := sp) (destPos := dp) (n := n) (by rw [hT]; exact hc0) (by rw [hT]; exact hc1)
      hs6 (fun _ h => by cases h) hs3 (fun h => by cases h) hkk0 hkk1 hkk0' hkk1' (by show (refKind FieldType.byte != refKind (aty 1) || (!refKind FieldType.byte && FieldType.byte != aty 1)) = false; decide) h1 h2 h3
      (by rw [nn_toInt h1, nn_toInt h3]; have := h4; simp only [ix] at this; omega)
      (by rw [nn_toInt h2, nn_toInt h3, arrV_size]; have := h5; simp only [ix] at this; omega)
      (fun vm₁ _ i hi => by
        have e : scr.slots.getD (sp.toNatClampNeg + i) .null = .int (schr j (sp.toNatClampNeg + i)) := by
          rw [Array.getD_eq_getD_getElem?, hs5 _ (by have := h4; simp only [ix] at this; omega)]
          rfl
        refine ⟨?_, ?_⟩
        · rw [e]
          exact hf9 _ (by have := h4; simp only [ix] at this; omega)
        · rw [e]
          exact trivial)
      (g := F0 m pc la (.int n :: .int dp :: .ref (ad kd id) :: .int sp :: .ref (G.2.2.1 (txn + (3 + j))) :: st.map (cv G ad))) rfl (hl.1.trans C.2.2.1.symm) (rest := st.map (cv G ad)) rfl (by rw [C.2.1]; exact hd) (by show 1 ≤ d; omega) (by show 2 * 0 + _ + _ ≤ 40 * d; omega)
    have e1 : copied scr (arrV (G.2.1 1) (aln z kd) (fun q => .int (gI X kd id q))) sp dp n = arrV (G.2.1 1) (aln z kd) (fun q => .int (va_cpy (schr j) (gI X kd id) (ix sp) (ix dp) (ix n) q)) := va_copiedX (fun z => .int z) scr _ _ _ hs5 h4
    rw [e1] at X' step
    refine ⟨_, ?_, X', step⟩
    rw [← hT]
    rfl
  · rw [cel_a hk1]
    show (H.setIfInBounds (ad kd id) _)[ad kd id]? = some (arrV (G.2.1 1) (aln z kd) (fun q => .int (gI (cT X j kd id (ix sp) (ix dp) (ix n)) kd id q)))
    rw [cT_cpy]
    simp [Array.getElem?_setIfInBounds, hhl]
theorem v_callT (K : ∀ p, chk y p = true) {v : Int32} {op a c np y' d' mc' ms' j9 : Nat} {wp' : Nat → Nat → Prop} {As stk : List Av} {z1 : Zz} {QR' : Option Av → Zz → Mm → Prop} {QX' : Nat → Zz → Mm → Prop} (ht : tb y pc = (op, v, a, y', c, np)) (hop : op = 81 ∨ op = 99) (hlk : Cond.methodLink (RN (cid y)) a (nmy y') ∈ TT) (hI : y' ∈ IMd) (hSl : y' ∈ SLd) (hcl : cid y' = 14) (hy0 : Nat.ble y' 299 = true) (hC : Ct y' d' mc' ms' wp' z1 X (aS j9 :: As) QR' QX') (hs : stk = rapp (aS j9 :: As) st) (hz : z1.1 = z.1 ∧ z1.2.1 = z.2.1 ∧ z1.2.2.1 = z.2.2.1) (hw : ∀ k i, wp' k i → wp k i) (hlen : As.length = npl.getD y' 0) (hd : Nat.ble (d' + 1) d = true) (hm : (Nat.ble (z.2.2.2.1 + mc') mc && Nat.ble (z.2.2.2.2 + ms') ms) = true) (hst : Nat.ble st.length 4 = true)
    (kk : ∀ (w : Option Av) (z2 : Zz) (X2 : Mm), QR' w z2 X2 → Ag wp' X X2 → V y xt d mc ms wp z0 X0 QR QX (z2.1, z2.2.1, z.2.2.1, z.2.2.2.1 + mc', z.2.2.2.2 + ms') np ls (w.toList ++ st) X2)
    (kx : ∀ (x : Nat) (z2 : Zz) (X2 : Mm), QX' x z2 X2 → Ag wp' X X2 → VX y xt d mc ms wp z0 X0 QR QX (z2.1, z2.2.1, z.2.2.1, z.2.2.2.1 + mc', z.2.2.2.2 + ms') pc ls x X2) : V y xt d mc ms wp z0 X0 QR QX z pc ls stk X := by
  intro l G ad0 p e s m args below meth c0 C ad H locs cells slots la U hl ol os
  have h1 : decode (byt y) pc = .ok (.invokevirtual a, 3) ∧ np = pc + 3 := by
    rcases hop with rfl | rfl
    · obtain ⟨h1, -, h3⟩ := chk_sp K ht rfl
      exact ⟨h1, h3.elim (fun q => by cases q) id⟩
    · obtain ⟨h1, -, h3⟩ := chk_sp K ht rfl
      exact ⟨h1, h3.elim (fun q => by cases q) id⟩
  obtain ⟨h1, h3⟩ := h1
  subst h3
  obtain ⟨hm1, hm2⟩ := Bool.and_eq_true_iff.mp hm
  have hm1 := Nat.le_of_ble_eq_true hm1
  have hm2 := Nat.le_of_ble_eq_true hm2
  have hd := Nat.le_of_ble_eq_true hd
  have hst := Nat.le_of_ble_eq_true hst
  have hsum := cat_sum G ad st
  have hc1 := U.2.2.2.2.2.2.1
  have hc2 := U.2.2.2.2.2.2.2.1
  have hy3 : y' < 300 := Nat.lt_succ_of_le (Nat.le_of_ble_eq_true hy0)
  have hyN : y' < NM := Nat.lt_of_lt_of_le hy3 (by decide)
  have hmx := mx_ok y' hyN
  subst hs
  obtain ⟨oA, oS⟩ := oks_rapp os
  have hj : j9 < txn := oks_h oA
  obtain ⟨adV, hvk⟩ := C.2.2.2.2.2.2.2.2.2.2.2.2.2.1
  have hrec := vk_recv (hvk.narrow U.2.2.2.2.2.2.2.2.2) hj U.2.2.2.2.2.1
  have hrec : ∃ cell : Cell, H[G.2.2.1 j9]? = some cell ∧ cell.vm.isStatics = false ∧ s.vm.findClass (RN (cid y')) = some cell.cls := by rw [hcl]; exact hrec
  refine run_ok C U hl ol oS hw hz (vx_runV (C := RN (cid y')) (Ts := TT) (b := G.2.2.1 j9) (As := As.map (cv G ad)) (rest := st.map (cv G ad)) ⟨C.1, C.2.1, C.2.2.1, C.2.2.2.1, C.2.2.2.2.1⟩ (hC.2 l G ad H.size C.2.2.2.2.2.2.2.1) ⟨callB_of (npl.getD y' 0) C.2.2.2.2.1 (gd_in (wsy_in hy3)) rfl rfl rfl (C.2.2.2.2.1 _ (ini_in hyN)) (C.2.2.2.2.1 _ hlk) ⟨(cls_ok y' hyN).2.2.2.1, (cls_ok y' hyN).2.2.2.2, npr_ok y' hyN⟩ ⟨by show d' + 1 ≤ d; omega, by show 8 + (mxl y' + 11) + 40 * d' ≤ 40 * d; omega⟩, C.2.2.2.2.1 _ (IMd_in _ hI), C.2.2.2.2.1 _ (SLd_in _ hSl)⟩ ⟨kt_blind, hrec, fun W9 hU hW => U.pre C hz oA W9 hU hW⟩ rfl (by rw [List.length_map]; exact hlen) hl.1 (by rw [rapp_eq, List.map_append, List.reverse_cons, List.map_append, List.map_reverse]; simp [cv]) (by show 2 * 0 + _ ≤ 8; omega) h1 ⟨by show cells + mc' ≤ mc; omega, by show slots + ms' ≤ ms; omega⟩) kk kx
theorem v_getT (K : ∀ p, chk y p = true) {v : Int32} {a b c np j : Nat} (ht : tb y pc = (50, v, a, b, c, np)) (hlk : Cond.fieldLink (RN (cid y)) a "java/lang/String" "value" "[B" ∈ TT) (kk : V y xt d mc ms wp z0 X0 QR QX z np ls (aX (3 + j) :: st) X) : V y xt d mc ms wp z0 X0 QR QX z pc ls (aS j :: st) X := by
  intro l G ad0 p e s m args below meth c0 C ad H locs cells slots la U hl ol os
  obtain ⟨h1, h2, h3⟩ := chk_sp K ht rfl
  have h3 : np = pc + 3 := h3.elim (fun q => by cases q) id
  subst h3
  have hj : j < txn := oks_h os
  have hKd := ((C.2.2.2.2.2.2.2.2.2.2.2).2.2.2.2.2.2.2 j hj).1
  have hcv : cv G ad (aX (3 + j)) = .ref (G.2.2.1 (txn + (3 + j))) := by
    show cond (Nat.beq (3 + j) 0) Value.null (.ref (G.2.2.1 (txn + (3 + j)))) = _
    rw [beq_ne (by omega : 3 + j ≠ 0)]
    rfl
  have k9 := kk l G ad0 p e s m args below meth c0 C ad H locs cells slots la U hl ol (oks_c trivial (oks_t os))
  rw [List.map_cons, hcv] at k9
  exact vk_getf (ref := "java/lang/String") C.1 C.2.1 hKd (va_Sw U.2.2.2.2.2.1 U.2.2.2.2.2.2.2.2.2) C.2.2.2.1 (C.2.2.2.2.1 _ hlk) (fun _ h => h) h1 k9
theorem v_getTc (K : ∀ p, chk y p = true) {v : Int32} {a b c np j : Nat} (ht : tb y pc = (50, v, a, b, c, np)) (hlk : Cond.fieldLink (RN (cid y)) a "java/lang/String" "coder" "B" ∈ TT) (kk : V y xt d mc ms wp z0 X0 QR QX z np ls (aI 0 :: st) X) : V y xt d mc ms wp z0 X0 QR QX z pc ls (aS j :: st) X := by
  intro l G ad0 p e s m args below meth c0 C ad H locs cells slots la U hl ol os
  obtain ⟨h1, h2, h3⟩ := chk_sp K ht rfl
  have h3 : np = pc + 3 := h3.elim (fun q => by cases q) id
  subst h3
  have hj : j < txn := oks_h os
  obtain ⟨adV, hvk⟩ := C.2.2.2.2.2.2.2.2.2.2.2.2.2.1
  exact vk_getf (ref := "java/lang/String") C.1 C.2.1 (hvk.1 j hj).2.1 (va_Sw U.2.2.2.2.2.1 U.2.2.2.2.2.2.2.2.2) C.2.2.2.1 (C.2.2.2.2.1 _ hlk) (fun _ h => h) h1 (kk l G ad0 p e s m args below meth c0 C ad H locs cells slots la U hl ol (oks_c trivial (oks_t os)))
theorem v_alenT (K : ∀ p, chk y p = true) {v : Int32} {a b c np j : Nat} (hj : j < txn) (ht : tb y pc = (61, v, a, b, c, np)) (kk : V y xt d mc ms wp z0 X0 QR QX z np ls (aI (nI (slen j)) :: st) X) : V y xt d mc ms wp z0 X0 QR QX z pc ls (aX (3 + j) :: st) X := by
  intro l G ad0 p e s m args below meth c0 C ad H locs cells slots la U hl ol os
  obtain ⟨h1, h2, h3⟩ := chk_sp K ht rfl
  have h3 : np = pc + 1 := h3.elim (fun q => by cases q) id
  subst h3
  have hKd := ((C.2.2.2.2.2.2.2.2.2.2.2).2.2.2.2.2.2.2 j hj).2
  have hcv : cv G ad (aX (3 + j)) = .ref (G.2.2.1 (txn + (3 + j))) := by
    show cond (Nat.beq (3 + j) 0) Value.null (.ref (G.2.2.1 (txn + (3 + j)))) = _
    rw [beq_ne (by omega : 3 + j ≠ 0)]
    rfl
  show W p l e (rmm d mc ms) s m args below meth c0 H locs cells slots _ (F0 m pc la (cv G ad (aX (3 + j)) :: st.map (cv G ad)))
  rw [hcv]
  exact va_tlen C.1 C.2.1 hKd (va_Sw U.2.2.2.2.2.1 U.2.2.2.2.2.2.2.2.2) rfl h1 (kk l G ad0 p e s m args below meth c0 C ad H locs cells slots la U hl ol (oks_c trivial (oks_t os)))
theorem v_nreturn (K : ∀ p, chk y p = true) {v : Int32} {a b c np : Nat} {x : Int32} {t : FieldType} (ht : tb y pc = (70, v, a, b, c, np)) (hrt : rtt y = some t) (hn : narrow t (.int x) = .int x) (hq : QR (some (aI x)) z X) (hr : rok d mc ms z = true := by rfl) : V y xt d mc ms wp z0 X0 QR QX z pc ls [aI x] X := by
  intro l G ad0 p e s m args below meth c0 C ad H locs cells slots la U hl ol os
  obtain ⟨h1, -, -⟩ := chk_sp K ht rfl
  obtain ⟨r1, r2, r3⟩ := rok_of hr
  refine vx_ret (W.widen (k := mc) (n := ms) (Nat.le_trans U.2.2.2.2.2.2.1 r2) (Nat.le_trans U.2.2.2.2.2.2.2.1 r3) ?_)
  exact W.zret (ty := t) C.1 C.2.1 (C.2.2.2.2.2.2.1.trans hrt) hn (fun t hT _ => ⟨⟨some (aI x), ad, z, X, rfl, hq, by rw [hT]; exact U.ed, fun w hw => by cases hw; trivial⟩, U.2.2.2.2.2.1.F hT⟩) U.locsA h1 C.2.2.2.2.2.1
end CB
