/-! the constructor of the class to its end, and the model's (printed by wip/whole/e/genk.py) -/
theorem kc33_ge {c : Nat → Nat} {a : Nat} (h : 69 ≤ a) (h2 : c a = 0) : kc33 c a = 0 := (rwC_ge h rfl h2)
theorem kc0_ge {c : Nat → Nat} {a : Nat} (h : 69 ≤ a) (h2 : c a = 0) : kc0 c a = 0 := (inc_ge h rfl (inc_ge h rfl (inc_ge h rfl (inc_ge h rfl (inc_ge h rfl (inc_ge h rfl h2))))))
theorem kc8_ge {c : Nat → Nat} {a : Nat} (h : 69 ≤ a) (h2 : c a = 0) : kc8 c a = 0 := (inc_ge h rfl h2)
theorem kc51_ge {c : Nat → Nat} {a : Nat} (h : 69 ≤ a) (h2 : c a = 0) : kc51 c a = 0 := (kc33_ge h (inc_ge h rfl (inc_ge h rfl (inc_ge h rfl (inc_ge h rfl (inc_ge h rfl (inc_ge h rfl (inc_ge h rfl h2))))))))
theorem kc70_ge {c : Nat → Nat} {a : Nat} (h : 69 ≤ a) (h2 : c a = 0) : kc70 c a = 0 := (kc8_ge h (inc_ge h rfl (kc33_ge h (inc_ge h rfl (kc0_ge h (inc_ge h rfl (rwC_ge h rfl (inc_ge h rfl (inc_ge h rfl (inc_ge h rfl (inc_ge h rfl h2)))))))))))
theorem kc16_ge {c : Nat → Nat} {a : Nat} (h : 69 ≤ a) (h2 : c a = 0) : kc16 c a = 0 := (inc_ge h rfl h2)
theorem kc93_ge {c : Nat → Nat} {a : Nat} (h : 69 ≤ a) (h2 : c a = 0) : kc93 c a = 0 := h2
theorem kc58_ge {c : Nat → Nat} {a : Nat} (h : 69 ≤ a) (h2 : c a = 0) : kc58 c a = 0 := (kc93_ge h (inc_ge h rfl (kc51_ge h (inc_ge h rfl h2))))
theorem kc24_ge {c : Nat → Nat} {a : Nat} (h : 69 ≤ a) (h2 : c a = 0) : kc24 c a = 0 := (rwC_ge h rfl (rwC_ge h rfl (inc_ge h rfl (inc_ge h rfl h2))))
theorem cB_ge {a : Nat} (h : 69 ≤ a) : cB a = 0 := by
  unfold cB
  rw [beq_ne (by omega : a ≠ 68)]
  rfl
theorem cH_ge {a : Nat} (h : 69 ≤ a) : cH a = 0 := (inc_ge h rfl (kc70_ge h (inc_ge h rfl (kc70_ge h (inc_ge h rfl (kc70_ge h (inc_ge h rfl (kc51_ge h (inc_ge h rfl (kc51_ge h (inc_ge h rfl (inc_ge h rfl (kc58_ge h (inc_ge h rfl (kc16_ge h (inc_ge h rfl (inc_ge h rfl (cB_ge h))))))))))))))))))
theorem kc13_ge {a : Nat} (h : 69 ≤ a) : kc13 a = 0 := (kc70_ge h (inc_ge h rfl (kc70_ge h (inc_ge h rfl (kc70_ge h (inc_ge h rfl (kc70_ge h (inc_ge h rfl (kc70_ge h (inc_ge h rfl (kc70_ge h (inc_ge h rfl (kc70_ge h (inc_ge h rfl (kc70_ge h (inc_ge h rfl (inc_ge h rfl (cH_ge h))))))))))))))))))
theorem kcB_ge {a : Nat} (h : 69 ≤ a) : kcB a = 0 := (inc_ge h rfl (inc_ge h rfl (kc24_ge h (inc_ge h rfl (kc13_ge h)))))
theorem cF_g0 {a : Nat} (h : 69 ≤ a) : cF g0 a = 0 := by
  have h1 : Nat.ble a 47 = false := by
    cases hb : Nat.ble a 47 with
    | false => rfl
    | true => have := Nat.le_of_ble_eq_true hb; omega
  unfold cF
  rw [h1, beq_ne (by omega : a ≠ 68)]
  show cond _ 0 (g0 (2000 + a)) = 0
  have hz : g0 (2000 + a) = 0 := by
    have h2 : Nat.ble (2000 + a) 999 = false := by
      cases hb : Nat.ble (2000 + a) 999 with
      | false => rfl
      | true => have := Nat.le_of_ble_eq_true hb; omega
    unfold g0
    rw [beq_ne (by omega : 2000 + a ≠ 0), beq_ne (by omega : 2000 + a ≠ 1), beq_ne (by omega : 2000 + a ≠ 2), h2]
    rfl
  rw [hz]
  cases (Nat.beq a 66 || Nat.ble 7001 a) <;> rfl
theorem kcB_eq : kcB = cF g0 := by
  funext a
  by_cases h : a < 69
  · have : ∀ a, a < 69 → kcB a = cF g0 a := by decide +kernel
    exact this a h
  · rw [kcB_ge (by omega), cF_g0 (by omega)]
/-- the memory when the law begins -/
def xM (xs : Nat → Int32) : Mm := (fun k i j => if k = 68 ∧ i = 0 then xs j else 0, fun _ _ _ => 0, fun _ _ _ => 0)
def YB (xs : Nat → Int32) : Sm := (kmB (xM xs), g0)
def Y54 (xs : Nat → Int32) : Sm := sI (sI (sJ (YB xs) 6 1 0 (nL 97)) 7 1 0 (nI 0)) 5 1 0 (nI (0 + 1))
def Y55 (xs : Nat → Int32) : Sm := sI (sI (sI (sJ (Y54 xs) 8 1 0 (nL 97)) 9 1 0 (nI 0)) 10 1 0 (nI 1)) 5 1 3 (nI (0 + 1))
theorem e54 {Y : Sm} {a1 : Int64} {a2 : Int32} (e : gI Y.1 5 1 0 = nI 0) : fn_54 1 a1 a2 Y = some ((), sI (sI (sJ Y 6 1 0 a1) 7 1 0 a2) 5 1 0 (nI (0 + 1))) := by
  unfold fn_54
  rw [e, iteI_le_f (by omega) (by omega), ck_in (by omega) (by omega), ix_nI (by omega), wr_t, gI_sJ, e, ck_in (by omega) (by omega), ix_nI (by omega), wr_t, gI_sIk (by omega), gI_sJ, e, wr_t, nI_add]
theorem e55 {Y : Sm} {a1 : Int64} {a2 a3 : Int32} (e : gI Y.1 5 1 3 = nI 0) : fn_55 1 a1 a2 a3 Y = some ((), sI (sI (sI (sJ Y 8 1 0 a1) 9 1 0 a2) 10 1 0 a3) 5 1 3 (nI (0 + 1))) := by
  unfold fn_55
  rw [e, iteI_le_f (by omega) (by omega), ck_in (by omega) (by omega), ix_nI (by omega), wr_t, gI_sJ, e, ck_in (by omega) (by omega), ix_nI (by omega), wr_t, gI_sIk (by omega), gI_sJ, e, ck_in (by omega) (by omega), ix_nI (by omega), wr_t, gI_sIk (by omega), gI_sIk (by omega), gI_sJ, e, wr_t, nI_add]
set_option maxRecDepth 100000 in
theorem yb0 (xs : Nat → Int32) : gI (YB xs).1 5 1 0 = nI 0 := rfl
set_option maxRecDepth 100000 in
theorem yb3 (xs : Nat → Int32) : gI (YB xs).1 5 1 3 = nI 0 := rfl
set_option maxRecDepth 100000 in
theorem st_Y55 (xs : Nat → Int32) : StX (Y55 xs) := by
  refine ⟨⟨rfl, rfl⟩, ⟨rfl, rfl, rfl⟩, ⟨rfl, rfl, rfl, rfl, rfl⟩, fun j hj => ?_, ⟨rfl, rfl⟩, rfl, ⟨rfl, rfl, rfl, rfl, rfl⟩, rfl, rfl⟩
  match j, hj with
  | 0, _ => rfl
  | 1, _ => rfl
  | 2, _ => rfl
  | 3, _ => rfl
  | 4, _ => rfl
  | (j + 5), hj => exact absurd hj (by omega)
/-- BallotBus.<init> -/
theorem ct103 (xs : Nat → Int32) (L : Nat) : ∃ T : Sm, fn_71 0 1 (Y55 xs) = some ((), T) ∧ Fr (S2 0) (sG (Y55 xs) 3 1) T ∧ Kc 103 7 410 9827 L (inc cB 0) (rP g0 [(0, 0, nof)]) (xM xs) [aR 0 0] (cF T.2) (sr T.2) T.1 := by
  obtain ⟨T, h71, hF⟩ := c_begin (st_Y55 xs)
  refine ⟨T, h71, hF, ?_⟩
  have h54 : fn_54 1 (nL 97) (nI 0) (YB xs) = some ((), Y54 xs) := e54 (yb0 xs)
  have h55 : fn_55 1 (nL 97) (nI 0) (nI 1) (Y54 xs) = some ((), Y55 xs) := e55 (by
    unfold Y54
    rw [gI_sIv, upd_ne (by omega), gI_sIk (by omega), gI_sJ]
    exact yb3 xs)
  refine k_of [(0, aR 0 0)] rfl rfl rfl (fun z0 X0 => ?_)
  refine ctB rfl rfl ?_
  refine v_refs (cF g0) (sr g0) (kcB_eq.symm) (fun _ _ _ _ => rfl) ?_
  refine v_seg k103 4 (pc' := 173) (ls' := [(0, aR 0 0)]) (st' := [aI (nI 0), aJ (nL 97), aR 5 1]) (X' := kmB (xM xs)) (cs' := []) rfl trivial ?_
  refine k_callV (R := sr (YB xs).2) (c := cF (YB xs).2) k103 (st := []) rfl (k_mt (sn_54 1 (nL 97) (nI 0) () (Y54 xs) h54) L) rfl rfl rfl rfl rfl rfl rfl rfl ?_
  refine v_seg k103 5 (pc' := 185) (ls' := [(0, aR 0 0)]) (st' := [aI (nI 1), aI (nI 0), aJ (nL 97), aR 5 1]) (X' := (Y54 xs).1) (cs' := []) rfl trivial ?_
  refine k_callV k103 (st := []) rfl (k_mt (sn_55 1 (nL 97) (nI 0) (nI 1) () (Y55 xs) h55) L) rfl rfl rfl rfl rfl rfl rfl rfl ?_
  refine v_seg k103 4 (pc' := 196) (ls' := [(0, aR 0 0)]) (st' := [aR 5 1, aR 21 0]) (X' := (Y55 xs).1) (cs' := []) rfl trivial ?_
  refine k_callV k103 (st := []) rfl (k_mt (sn_71 0 1 () T h71) L) rfl rfl rfl rfl rfl rfl rfl rfl ?_
  exact k_ret k103 rfl rfl rfl
