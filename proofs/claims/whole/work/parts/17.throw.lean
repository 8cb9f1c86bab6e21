/-! throws and catches (printed by wip/whole/gen17.py) -/
theorem xk_0 : Cond.classLink RX11 214 (exn 0) ∈ TT := TT_in (tp4 (List.mem_of_getElem? (i := 167) (by decide +kernel))) rfl
theorem xi_0 : Cond.initialized (exn 0) ∈ TT := TT_in (tp1 (List.mem_of_getElem? (i := 22) (by decide +kernel))) rfl
theorem xg_0 : ∀ w ∈ (vx_atS RX11 218 (exn 0) ["java/lang/RuntimeException", "java/lang/Exception"]).filter goodWord, w ∈ lw_tbl := by
  have h : ((vx_atS RX11 218 "java/lang/IndexOutOfBoundsException" ["java/lang/RuntimeException", "java/lang/Exception"]).filter goodWord).all (fun w => decide (w ∈ lw_tbl)) = true := by decide +kernel
  exact fun w hw => of_decide_eq_true (List.all_eq_true.mp h w hw)
theorem xb_0 : ∀ w ∈ (vx_atS RX11 218 (exn 0) ["java/lang/RuntimeException", "java/lang/Exception"]).filter (fun w => !goodWord w), w ∈ [Cond.castable (exn 0) (exn 0), Cond.declares (Bundle.initS "java/lang/RuntimeException"), Cond.declares (Bundle.initS "java/lang/Exception"), Cond.declares (Bundle.initS "java/lang/Throwable")] := by decide +kernel
theorem xo_0 : ∀ w ∈ Cond.classLink RX11 214 (exn 0) :: Cond.initialized (exn 0) :: vx_atS RX11 218 (exn 0) ["java/lang/RuntimeException", "java/lang/Exception"], vx_ot w = true := by decide +kernel
theorem xk_1 : Cond.classLink RX11 253 (exn 1) ∈ TT := TT_in (tp5 (List.mem_of_getElem? (i := 42) (by decide +kernel))) rfl
theorem xi_1 : Cond.initialized (exn 1) ∈ TT := TT_in (tp1 (List.mem_of_getElem? (i := 23) (by decide +kernel))) rfl
theorem xg_1 : ∀ w ∈ (vx_atS RX11 255 (exn 1) ["java/lang/RuntimeException", "java/lang/Exception"]).filter goodWord, w ∈ lw_tbl := by
  have h : ((vx_atS RX11 255 "java/lang/IllegalArgumentException" ["java/lang/RuntimeException", "java/lang/Exception"]).filter goodWord).all (fun w => decide (w ∈ lw_tbl)) = true := by decide +kernel
  exact fun w hw => of_decide_eq_true (List.all_eq_true.mp h w hw)
theorem xb_1 : ∀ w ∈ (vx_atS RX11 255 (exn 1) ["java/lang/RuntimeException", "java/lang/Exception"]).filter (fun w => !goodWord w), w ∈ [Cond.castable (exn 1) (exn 1), Cond.declares (Bundle.initS "java/lang/RuntimeException"), Cond.declares (Bundle.initS "java/lang/Exception"), Cond.declares (Bundle.initS "java/lang/Throwable")] := by decide +kernel
theorem xo_1 : ∀ w ∈ Cond.classLink RX11 253 (exn 1) :: Cond.initialized (exn 1) :: vx_atS RX11 255 (exn 1) ["java/lang/RuntimeException", "java/lang/Exception"], vx_ot w = true := by decide +kernel
theorem xk_2 : Cond.classLink RX11 354 (exn 2) ∈ TT := TT_in (tp6 (List.mem_of_getElem? (i := 2) (by decide +kernel))) rfl
theorem xi_2 : Cond.initialized (exn 2) ∈ TT := TT_in (tp1 (List.mem_of_getElem? (i := 26) (by decide +kernel))) rfl
theorem xg_2 : ∀ w ∈ (vx_atS RX11 358 (exn 2) ["java/lang/RuntimeException", "java/lang/Exception"]).filter goodWord, w ∈ lw_tbl := by
  have h : ((vx_atS RX11 358 "java/lang/IllegalStateException" ["java/lang/RuntimeException", "java/lang/Exception"]).filter goodWord).all (fun w => decide (w ∈ lw_tbl)) = true := by decide +kernel
  exact fun w hw => of_decide_eq_true (List.all_eq_true.mp h w hw)
theorem xb_2 : ∀ w ∈ (vx_atS RX11 358 (exn 2) ["java/lang/RuntimeException", "java/lang/Exception"]).filter (fun w => !goodWord w), w ∈ [Cond.castable (exn 2) (exn 2), Cond.declares (Bundle.initS "java/lang/RuntimeException"), Cond.declares (Bundle.initS "java/lang/Exception"), Cond.declares (Bundle.initS "java/lang/Throwable")] := by decide +kernel
theorem xo_2 : ∀ w ∈ Cond.classLink RX11 354 (exn 2) :: Cond.initialized (exn 2) :: vx_atS RX11 358 (exn 2) ["java/lang/RuntimeException", "java/lang/Exception"], vx_ot w = true := by decide +kernel
theorem xk_3 : Cond.classLink RX11 265 (exn 3) ∈ TT := TT_in (tp5 (List.mem_of_getElem? (i := 62) (by decide +kernel))) rfl
theorem xi_3 : Cond.initialized (exn 3) ∈ TT := TT_in (tp1 (List.mem_of_getElem? (i := 24) (by decide +kernel))) rfl
theorem xg_3 : ∀ w ∈ (vx_atS RX11 269 (exn 3) ["java/lang/RuntimeException", "java/lang/Exception"]).filter goodWord, w ∈ lw_tbl := by
  have h : ((vx_atS RX11 269 "java/util/NoSuchElementException" ["java/lang/RuntimeException", "java/lang/Exception"]).filter goodWord).all (fun w => decide (w ∈ lw_tbl)) = true := by decide +kernel
  exact fun w hw => of_decide_eq_true (List.all_eq_true.mp h w hw)
theorem xb_3 : ∀ w ∈ (vx_atS RX11 269 (exn 3) ["java/lang/RuntimeException", "java/lang/Exception"]).filter (fun w => !goodWord w), w ∈ [Cond.castable (exn 3) (exn 3), Cond.declares (Bundle.initS "java/lang/RuntimeException"), Cond.declares (Bundle.initS "java/lang/Exception"), Cond.declares (Bundle.initS "java/lang/Throwable")] := by decide +kernel
theorem xo_3 : ∀ w ∈ Cond.classLink RX11 265 (exn 3) :: Cond.initialized (exn 3) :: vx_atS RX11 269 (exn 3) ["java/lang/RuntimeException", "java/lang/Exception"], vx_ot w = true := by decide +kernel
def xcp : List (Nat × Nat) := [(214, 218), (253, 255), (354, 358), (265, 269)]
theorem xcp_ok : ∀ c, c < 4 → Cond.classLink RX11 (xcp.getD c (0, 0)).1 (exn c) ∈ TT ∧ Cond.initialized (exn c) ∈ TT ∧ (∀ w ∈ (vx_atS RX11 (xcp.getD c (0, 0)).2 (exn c) ["java/lang/RuntimeException", "java/lang/Exception"]).filter goodWord, w ∈ lw_tbl) ∧
    (∀ w ∈ (vx_atS RX11 (xcp.getD c (0, 0)).2 (exn c) ["java/lang/RuntimeException", "java/lang/Exception"]).filter (fun w => !goodWord w), w ∈ [Cond.castable (exn c) (exn c), Cond.declares (Bundle.initS "java/lang/RuntimeException"), Cond.declares (Bundle.initS "java/lang/Exception"), Cond.declares (Bundle.initS "java/lang/Throwable")]) ∧
    (∀ w ∈ Cond.classLink RX11 (xcp.getD c (0, 0)).1 (exn c) :: Cond.initialized (exn c) :: vx_atS RX11 (xcp.getD c (0, 0)).2 (exn c) ["java/lang/RuntimeException", "java/lang/Exception"], vx_ot w = true) ∧ Bundle.fit (exn c) = true
  | 0, _ => ⟨xk_0, xi_0, xg_0, xb_0, xo_0, by decide +kernel⟩
  | 1, _ => ⟨xk_1, xi_1, xg_1, xb_1, xo_1, by decide +kernel⟩
  | 2, _ => ⟨xk_2, xi_2, xg_2, xb_2, xo_2, by decide +kernel⟩
  | 3, _ => ⟨xk_3, xi_3, xg_3, xb_3, xo_3, by decide +kernel⟩
  | c + 4, h => absurd h (by omega)
theorem Hp.ext {G : Gp} {ad : Nat → Nat → Nat} {z : Zz} {X : Mm} {H H1 : Heap} (h : Hp G ad z X H) (h1 : H.size ≤ H1.size) (h2 : ∀ q : Nat, q < H.size → H1[q]? = H[q]?) : Hp G ad z X H1 :=
  ⟨fun k i hk => (h.1 k i hk).kept (h2 _ (h.1 k i hk).lt), h.2.1, h.2.2.1, Nat.le_trans h.2.2.2.1 h1, h.2.2.2.2⟩
def thr (y pc : Nat) (v : Int32) (a b c np : Nat) : Bool :=
  decide (decode (byt y) (pc + 3) = .ok (.dup, 1)) && (cond (decide (v = 1)) (decide (decode (byt y) (pc + 4) = .ok (.ldc_w (np / 64), 3)) && (decide (decode (byt y) (pc + 7) = .ok (.invokespecial b, 3)) && decide (decode (byt y) (pc + 10) = .ok (.athrow, 1))))
    (decide (decode (byt y) (pc + 4) = .ok (.ldc (np / 64), 2)) && (decide (decode (byt y) (pc + 6) = .ok (.invokespecial b, 3)) && decide (decode (byt y) (pc + 9) = .ok (.athrow, 1)))) &&
  (decide ((stl[np % 64]?).map (fun q => (q.1, q.2.1)) = some (11, np / 64)) && (decide (cid y = 11) && (decide (xcp.getD c (0, 0) = (a, b)) && Nat.ble (c + 1) 4))))
section THR
variable {y : Nat} {d mc ms : Nat} {wp : Nat → Nat → Prop} {z0 : Zz} {X0 : Mm} {QR : Option Av → Zz → Mm → Prop} {QX : Nat → Zz → Mm → Prop} {z : Zz} {pc : Nat} {ls : Lo} {st : List Av} {X : Mm}
set_option maxHeartbeats 1000000 in
/-- throw new E("text") -/
theorem v_throw (K : ∀ p, chk y p = true) {v : Int32} {a b c np : Nat} (ht : tb y pc = (95, v, a, b, c, np)) (hth : thr y pc v a b c np = true) (hq : QX c z X) (hr : rok d mc ms (z.1, z.2.1, z.2.2.1, z.2.2.2.1 + 1, z.2.2.2.2 + 6) = true := by rfl) (hd6 : Nat.ble 6 d = true := by rfl) (hst : Nat.ble st.length 4 = true := by rfl) : V y [] d mc ms wp z0 X0 QR QX z pc ls st X := by
  intro l G ad0 p e s m args below meth c0 C ad H locs cells slots la U hl ol os
  obtain ⟨h1, -, -⟩ := chk_sp K ht rfl
  have h1 : decode (byt y) pc = .ok (.new a, 3) := h1
  obtain ⟨-, hr2, hr3⟩ := rok_of hr
  simp only at hr2 hr3
  have hd6 := Nat.le_of_ble_eq_true hd6
  have hst := Nat.le_of_ble_eq_true hst
  have hsum := cat_sum G ad st
  unfold thr at hth
  simp only [Bool.and_eq_true, decide_eq_true_eq] at hth
  obtain ⟨d3, hld, hs1, hcid, hab, hc4⟩ := hth
  have hc4 : c < 4 := Nat.lt_of_succ_le (Nat.le_of_ble_eq_true hc4)
  obtain ⟨w1, w2, w3, w4, w5, w6⟩ := xcp_ok c hc4
  rw [hab] at w1 w3 w4 w5
  have hts := C.2.2.2.2.1
  have hKt := C.2.2.2.2.2.2.2.2.2.2.1
  have hKh := C.2.2.2.2.2.2.2.2.2.2.2
  have hown : s.vm.findClass RX11 = some m.cls := by have := C.2.2.2.1; rwa [hcid] at this
  obtain ⟨q, hq9, e1⟩ := Option.map_eq_some_iff.mp hs1
  have hR := hKt.2.1 (np % 64) q hq9
  rw [show q.1 = 11 from congrArg Prod.fst e1, show q.2.1 = np / 64 from congrArg Prod.snd e1] at hR
  have hat : ∀ w ∈ vx_atS RX11 b (exn c) ["java/lang/RuntimeException", "java/lang/Exception"], w.before args s = true := vx_hat (fun w hw => hts w (TT_in (w3 w hw) (List.mem_filter.mp hw).2)) w4 (fun w hw => by
    simp only [List.mem_cons, List.not_mem_nil, or_false] at hw
    rcases hw with rfl | rfl | rfl | rfl
    · exact va_Nw.use rfl (hKt.2.2.2.1 c hc4)
    · exact va_Nw.use rfl (hKt.2.2.2.2.1 _ (by decide))
    · exact va_Nw.use rfl (hKt.2.2.2.2.1 _ (by decide))
    · exact va_Nw.use rfl (hKt.2.2.2.2.1 _ (by decide)))
  obtain ⟨hHp, hDf, hold, hnew, hag, hS, hcc, hss, hLL, hA⟩ := id U
  have hout : ∀ pc9 : Nat, ∀ x ∈ c0.exceptionTable.toList, covers x pc9 = false := fun pc9 x hx => by rw [C.2.2.2.2.2.2.2.2.1] at hx; cases hx
  have hx9 : ∀ t : State, s.vm.Alike t.vm → H.size ≤ t.heap.size → (∀ q : Nat, q < H.size → t.heap[q]? = H[q]?) → XCC G ad0 wp z0 X0 s.heap.size QX (exn c) s t := fun t _ g1 g2 =>
    ⟨⟨c, ad, z, X, rfl, hq, hHp.ext g1 g2, hDf, hold, hnew, hag, hLL⟩, Nat.le_trans hS.1 g1, fun q g3 g4 => by rw [g2 q (Nat.lt_of_lt_of_le g3 hS.1)]; exact hS.2.1 q g3 g4⟩
  have hU9 := hKh.1.narrow hA
  have hN9 := hKh.2.1.narrow hA
  cases hv : decide (v = 1) with
  | true =>
    rw [hv] at hld
    simp only [cond_true, Bool.and_eq_true, decide_eq_true_eq] at hld
    obtain ⟨d4, d7, d10⟩ := hld
    exact vx_throwSW C.1 C.2.1 C.2.2.2.2.2.2.2.1 hown w6 (by decide +kernel) (hts _ w1) (hts _ w2) hR hat w5 hU9 hN9 hS (hl.1.trans C.2.2.1.symm) h1 d3 d4 d7 d10 (hout _) (by show 2 + 3 < d; omega) (by show _ + (13 * (2 + 1) + 43) ≤ 40 * d; omega) (by show cells + 1 ≤ mc; omega) (by show slots + 6 ≤ ms; omega) C.2.2.2.2.2.1 hx9 hS.2.2 (by omega) (by omega)
  | false =>
    rw [hv] at hld
    simp only [cond_false, Bool.and_eq_true, decide_eq_true_eq] at hld
    obtain ⟨d4, d6, d9⟩ := hld
    exact vx_throwS C.1 C.2.1 C.2.2.2.2.2.2.2.1 hown w6 (by decide +kernel) (hts _ w1) (hts _ w2) hR hat w5 hU9 hN9 hS (hl.1.trans C.2.2.1.symm) h1 d3 d4 d6 d9 (hout _) (by show 2 + 3 < d; omega) (by show _ + (13 * (2 + 1) + 43) ≤ 40 * d; omega) (by show cells + 1 ≤ mc; omega) (by show slots + 6 ≤ ms; omega) C.2.2.2.2.2.1 hx9 hS.2.2 (by omega) (by omega)
end THR
