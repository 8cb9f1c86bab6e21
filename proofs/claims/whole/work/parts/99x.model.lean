/-! the constructor of the model (printed by wip/whole/e/genk.py) -/
def kmM (X : Mm) : Mm := (uI (uI X 48 0 19 (-1 : Int32)) 48 0 32 (-1 : Int32))
def kcM : Nat → Nat := (inc (inc (inc (inc (inc (inc (inc (inc (inc (inc (inc (inc (inc (inc (inc (inc (inc (inc nF1 48) 49) 50) 51) 52) 53) 54) 55) 56) 57) 58) 59) 60) 61) 62) 63) 64) 65)
theorem kcM_ge {a : Nat} (h : 69 ≤ a) : kcM a = 0 := (inc_ge h rfl (inc_ge h rfl (inc_ge h rfl (inc_ge h rfl (inc_ge h rfl (inc_ge h rfl (inc_ge h rfl (inc_ge h rfl (inc_ge h rfl (inc_ge h rfl (inc_ge h rfl (inc_ge h rfl (inc_ge h rfl (inc_ge h rfl (inc_ge h rfl (inc_ge h rfl (inc_ge h rfl (inc_ge h rfl (nF1_ge h)))))))))))))))))))
theorem kcM_eq : kcM = nF2 := by
  funext a
  by_cases h : a < 69
  · have : ∀ a, a < 69 → kcM a = nF2 a := by decide +kernel
    exact this a h
  · rw [kcM_ge (by omega), nF2_ge (by omega)]
/-- BallotBusModel.<init>, up to where all is made -/
theorem ctM {mc ms : Nat} {L : Nat} {X X0 : Mm} {z0 : Zz} {QR : Option Av → Zz → Mm → Prop} {QX : Nat → Zz → Mm → Prop} (hmc : mc = 17) (hms : ms = 9951) (kk : V 162 [] 6 mc ms allw z0 X0 QR QX (kcM, rP g0 [], L, 17, 9951) 152 [(0, aR 48 0)] [] (kmM X)) : V 162 [] 6 mc ms allw z0 X0 QR QX (inc nF1 48, rP g0 [(48, 0, nof)], L, 0, 0) 0 [(0, aR 48 0)] [] X := by
  subst hmc
  subst hms
  have ho : okp [] 4 := okp_n
  refine v_seg k162 4 (pc' := 7) (ls' := [(0, aR 48 0)]) (st' := [aI (8 : Int32), aR 48 0]) (X' := X) (cs' := []) rfl trivial ?_
  refine k_arI (m := 9) k162 49 (0) (by decide +kernel) (okp_c ho rfl rfl) rfl rfl rfl rfl (fun _ _ => rfl) rfl rfl (by decide +kernel) rfl ?_
  refine k_putF k162 rfl rfl rfl (by decide +kernel) (by decide +kernel) rfl rfl rfl (fun _ => rfl) (fun _ => rfl) ?_
  refine v_seg k162 2 (pc' := 14) (ls' := [(0, aR 48 0)]) (st' := [aI (5 : Int32), aR 48 0]) (X' := X) (cs' := []) rfl trivial ?_
  refine k_arL (m := 9) k162 50 (0) (by decide +kernel) (okp_c ho rfl rfl) rfl rfl rfl rfl (fun _ _ => rfl) rfl rfl (n66 (by decide +kernel)) rfl ?_
  refine k_putF k162 rfl rfl rfl (by decide +kernel) (by decide +kernel) rfl rfl rfl (fun _ => rfl) (fun _ => rfl) ?_
  refine v_seg k162 2 (pc' := 22) (ls' := [(0, aR 48 0)]) (st' := [aI (8 : Int32), aR 48 0]) (X' := X) (cs' := []) rfl trivial ?_
  refine k_arL (m := 9) k162 51 (0) (by decide +kernel) (okp_c ho rfl rfl) rfl rfl rfl rfl (fun _ _ => rfl) rfl rfl (n66 (by decide +kernel)) rfl ?_
  refine k_putF k162 rfl rfl rfl (by decide +kernel) (by decide +kernel) rfl rfl rfl (fun _ => rfl) (fun _ => rfl) ?_
  refine v_seg k162 2 (pc' := 31) (ls' := [(0, aR 48 0)]) (st' := [aI (718 : Int32), aR 48 0]) (X' := X) (cs' := []) rfl trivial ?_
  refine k_arI (m := 9) k162 52 (0) (by decide +kernel) (okp_c ho rfl rfl) rfl rfl rfl rfl (fun _ _ => rfl) rfl rfl (by decide +kernel) rfl ?_
  refine k_putF k162 rfl rfl rfl (by decide +kernel) (by decide +kernel) rfl rfl rfl (fun _ => rfl) (fun _ => rfl) ?_
  refine v_seg k162 2 (pc' := 40) (ls' := [(0, aR 48 0)]) (st' := [aI (718 : Int32), aR 48 0]) (X' := X) (cs' := []) rfl trivial ?_
  refine k_arI (m := 9) k162 53 (0) (by decide +kernel) (okp_c ho rfl rfl) rfl rfl rfl rfl (fun _ _ => rfl) rfl rfl (by decide +kernel) rfl ?_
  refine k_putF k162 rfl rfl rfl (by decide +kernel) (by decide +kernel) rfl rfl rfl (fun _ => rfl) (fun _ => rfl) ?_
  refine v_seg k162 2 (pc' := 49) (ls' := [(0, aR 48 0)]) (st' := [aI (718 : Int32), aR 48 0]) (X' := X) (cs' := []) rfl trivial ?_
  refine k_arI (m := 9) k162 54 (0) (by decide +kernel) (okp_c ho rfl rfl) rfl rfl rfl rfl (fun _ _ => rfl) rfl rfl (by decide +kernel) rfl ?_
  refine k_putF k162 rfl rfl rfl (by decide +kernel) (by decide +kernel) rfl rfl rfl (fun _ => rfl) (fun _ => rfl) ?_
  refine v_seg k162 2 (pc' := 58) (ls' := [(0, aR 48 0)]) (st' := [aI (718 : Int32), aR 48 0]) (X' := X) (cs' := []) rfl trivial ?_
  refine k_arI (m := 9) k162 55 (0) (by decide +kernel) (okp_c ho rfl rfl) rfl rfl rfl rfl (fun _ _ => rfl) rfl rfl (by decide +kernel) rfl ?_
  refine k_putF k162 rfl rfl rfl (by decide +kernel) (by decide +kernel) rfl rfl rfl (fun _ => rfl) (fun _ => rfl) ?_
  refine v_seg k162 2 (pc' := 67) (ls' := [(0, aR 48 0)]) (st' := [aI (718 : Int32), aR 48 0]) (X' := X) (cs' := []) rfl trivial ?_
  refine k_arI (m := 9) k162 56 (0) (by decide +kernel) (okp_c ho rfl rfl) rfl rfl rfl rfl (fun _ _ => rfl) rfl rfl (by decide +kernel) rfl ?_
  refine k_putF k162 rfl rfl rfl (by decide +kernel) (by decide +kernel) rfl rfl rfl (fun _ => rfl) (fun _ => rfl) ?_
  refine v_seg k162 2 (pc' := 76) (ls' := [(0, aR 48 0)]) (st' := [aI (5744 : Int32), aR 48 0]) (X' := X) (cs' := []) rfl trivial ?_
  refine k_arI (m := 9) k162 57 (0) (by decide +kernel) (okp_c ho rfl rfl) rfl rfl rfl rfl (fun _ _ => rfl) rfl rfl (by decide +kernel) rfl ?_
  refine k_putF k162 rfl rfl rfl (by decide +kernel) (by decide +kernel) rfl rfl rfl (fun _ => rfl) (fun _ => rfl) ?_
  refine v_seg k162 5 (pc' := 88) (ls' := [(0, aR 48 0)]) (st' := [aI (5 : Int32), aR 48 0]) (X' := (uI X 48 0 19 (-1 : Int32))) (cs' := [allw 48 0]) rfl rfl ?_
  refine k_arI (m := 9) k162 58 (0) (by decide +kernel) (okp_c ho rfl rfl) rfl rfl rfl rfl (fun _ _ => rfl) rfl rfl (by decide +kernel) rfl ?_
  refine k_putF k162 rfl rfl rfl (by decide +kernel) (by decide +kernel) rfl rfl rfl (fun _ => rfl) (fun _ => rfl) ?_
  refine v_seg k162 2 (pc' := 95) (ls' := [(0, aR 48 0)]) (st' := [aI (5 : Int32), aR 48 0]) (X' := (uI X 48 0 19 (-1 : Int32))) (cs' := []) rfl trivial ?_
  refine k_arI (m := 9) k162 59 (0) (by decide +kernel) (okp_c ho rfl rfl) rfl rfl rfl rfl (fun _ _ => rfl) rfl rfl (by decide +kernel) rfl ?_
  refine k_putF k162 rfl rfl rfl (by decide +kernel) (by decide +kernel) rfl rfl rfl (fun _ => rfl) (fun _ => rfl) ?_
  refine v_seg k162 2 (pc' := 104) (ls' := [(0, aR 48 0)]) (st' := [aI (500 : Int32), aR 48 0]) (X' := (uI X 48 0 19 (-1 : Int32))) (cs' := []) rfl trivial ?_
  refine k_arB (m := 9) k162 60 (0) (by decide +kernel) (okp_c ho rfl rfl) rfl rfl rfl rfl (fun _ _ => rfl) rfl rfl (by decide +kernel) rfl ?_
  refine k_putF k162 rfl rfl rfl (by decide +kernel) (by decide +kernel) rfl rfl rfl (fun _ => rfl) (fun _ => rfl) ?_
  refine v_seg k162 5 (pc' := 116) (ls' := [(0, aR 48 0)]) (st' := [aI (5 : Int32), aR 48 0]) (X' := (uI (uI X 48 0 19 (-1 : Int32)) 48 0 32 (-1 : Int32))) (cs' := [allw 48 0]) rfl rfl ?_
  refine k_arI (m := 9) k162 61 (0) (by decide +kernel) (okp_c ho rfl rfl) rfl rfl rfl rfl (fun _ _ => rfl) rfl rfl (by decide +kernel) rfl ?_
  refine k_putF k162 rfl rfl rfl (by decide +kernel) (by decide +kernel) rfl rfl rfl (fun _ => rfl) (fun _ => rfl) ?_
  refine v_seg k162 2 (pc' := 124) (ls' := [(0, aR 48 0)]) (st' := [aI (8 : Int32), aR 48 0]) (X' := (uI (uI X 48 0 19 (-1 : Int32)) 48 0 32 (-1 : Int32))) (cs' := []) rfl trivial ?_
  refine k_arI (m := 9) k162 62 (0) (by decide +kernel) (okp_c ho rfl rfl) rfl rfl rfl rfl (fun _ _ => rfl) rfl rfl (by decide +kernel) rfl ?_
  refine k_putF k162 rfl rfl rfl (by decide +kernel) (by decide +kernel) rfl rfl rfl (fun _ => rfl) (fun _ => rfl) ?_
  refine v_seg k162 2 (pc' := 131) (ls' := [(0, aR 48 0)]) (st' := [aI (5 : Int32), aR 48 0]) (X' := (uI (uI X 48 0 19 (-1 : Int32)) 48 0 32 (-1 : Int32))) (cs' := []) rfl trivial ?_
  refine k_arL (m := 9) k162 63 (0) (by decide +kernel) (okp_c ho rfl rfl) rfl rfl rfl rfl (fun _ _ => rfl) rfl rfl (n66 (by decide +kernel)) rfl ?_
  refine k_putF k162 rfl rfl rfl (by decide +kernel) (by decide +kernel) rfl rfl rfl (fun _ => rfl) (fun _ => rfl) ?_
  refine v_seg k162 2 (pc' := 139) (ls' := [(0, aR 48 0)]) (st' := [aI (8 : Int32), aR 48 0]) (X' := (uI (uI X 48 0 19 (-1 : Int32)) 48 0 32 (-1 : Int32))) (cs' := []) rfl trivial ?_
  refine k_arL (m := 9) k162 64 (0) (by decide +kernel) (okp_c ho rfl rfl) rfl rfl rfl rfl (fun _ _ => rfl) rfl rfl (n66 (by decide +kernel)) rfl ?_
  refine k_putF k162 rfl rfl rfl (by decide +kernel) (by decide +kernel) rfl rfl rfl (fun _ => rfl) (fun _ => rfl) ?_
  refine v_seg k162 2 (pc' := 147) (ls' := [(0, aR 48 0)]) (st' := [aI (60 : Int32), aR 48 0]) (X' := (uI (uI X 48 0 19 (-1 : Int32)) 48 0 32 (-1 : Int32))) (cs' := []) rfl trivial ?_
  refine k_arB (m := 9) k162 65 (0) (by decide +kernel) (okp_c ho rfl rfl) rfl rfl rfl rfl (fun _ _ => rfl) rfl rfl (by decide +kernel) rfl ?_
  refine k_putF k162 rfl rfl rfl (by decide +kernel) (by decide +kernel) rfl rfl rfl (fun _ => rfl) (fun _ => rfl) ?_
  refine k_pop (m := 4) (n := 42) ho rfl rfl rfl (fun j hj => match j, hj with | 0, _ => rfl | 1, _ => rfl | 2, _ => rfl | 3, _ => rfl | 4, _ => rfl | 5, _ => rfl | 6, _ => rfl | 7, _ => rfl | 8, _ => rfl | 9, _ => rfl | 10, _ => rfl | 11, _ => rfl | 12, _ => rfl | 13, _ => rfl | 14, _ => rfl | 15, _ => rfl | 16, _ => rfl | 17, _ => rfl | 18, _ => rfl | 19, _ => rfl | 20, _ => rfl | 21, _ => rfl | 22, _ => rfl | 23, _ => rfl | 24, _ => rfl | 25, _ => rfl | 26, _ => rfl | 27, _ => rfl | 28, _ => rfl | 29, _ => rfl | 30, _ => rfl | 31, _ => rfl | 32, _ => rfl | 33, _ => rfl | 34, _ => rfl | 35, _ => rfl | 36, _ => rfl | 37, _ => rfl | 38, _ => rfl | 39, _ => rfl | 40, _ => rfl | 41, _ => rfl | (j + 42), hj => absurd hj (by omega)) ?_
  exact kk
def g2 : Nat → Nat := ug g0 1000 2
theorem cF_g2 : cF g2 = nF2 := by
  unfold cF g2
  rw [ug_at, if_neg (by decide), if_pos rfl]
theorem sr_g2 {k i j : Nat} (h : i < nF2 k) : sr g2 k i j = sr g0 k i j := by
  refine sr_cg (fun _ => ?_) (fun _ => ?_) (fun h21 => ?_)
  · unfold sr0 g2
    rw [ug_ne (by decide : (0 : Nat) ≠ 1000), ug_ne (by decide : (1 : Nat) ≠ 1000)]
  · unfold sr3 g2
    rw [ug_ne (by decide : (2 : Nat) ≠ 1000)]
  · subst h21
    have h : i < 11 := h
    unfold sr21 g2
    rw [ug_ne (by omega : i + 3 ≠ 1000)]
def WM (X : Mm) : Sm := (kmM X, g2)
def W1 (X : Mm) : Sm := sI (sF (sI (sI (sI (sI (sI (sI (sI (sI (WM X) 48 0 33 (nI 0)) 48 0 34 (nI 0)) 48 0 35 (nI 0)) 61 0 0 (nI 3)) 61 0 1 (nI 6)) 61 0 2 (nI 10)) 61 0 3 (nI 0)) 61 0 4 (nI 3)) 53 0 (fun q => if q < 718 then nI 0 else gI (WM X).1 53 0 q)) 53 0 8 (-1 : Int32)
def W2 (X : Mm) : Sm := sI (sJ (sJ (W1 X) 63 0 0 (nL 1)) 64 0 0 (nL 1)) 62 0 0 (nI 1)
def W3 (X : Mm) : Sm := sI (sI (W2 X) 48 0 33 (nI 1)) 48 0 34 (nI 1)
/-- BallotBusModel.<init> -/
theorem ct162 {X : Mm} {L : Nat} {Z : Sm} (h269 : fn_269 (W3 X) = some ((), Z)) : Kc 162 6 17 9951 L (inc nF1 48) (rP g0 [(48, 0, nof)]) X [aR 48 0] (cF Z.2) (sr Z.2) Z.1 := by
  have h268 : fn_268 (WM X) = some ((), W1 X) := r_268 (WM X)
  refine k_of [(0, aR 48 0)] rfl rfl rfl (fun z0 X0 => ?_)
  refine ctM rfl rfl ?_
  refine v_refs (cF g2) (sr g2) (by rw [kcM_eq, cF_g2]) (fun k i j hi => ?_) ?_
  · have hi : i < kcM k := hi
    rw [kcM_eq] at hi
    exact sr_g2 hi
  refine v_seg k162 1 (pc' := 153) (ls' := [(0, aR 48 0)]) (st' := [aR 48 0]) (X' := kmM X) (cs' := []) rfl trivial ?_
  refine k_callV (R := sr (WM X).2) (c := cF (WM X).2) k162 (st := []) rfl (k_mt (sn_268 () (W1 X) h268) L) rfl rfl rfl rfl rfl rfl rfl rfl ?_
  refine v_seg k162 5 (pc' := 163) (ls' := [(0, aR 48 0)]) (st' := []) (X' := (sJ (W1 X) 63 0 0 (nL 1)).1) (cs' := [vp_in (nI 0) 5, allw 63 0]) rfl ⟨vin (by decide), rfl⟩ ?_
  refine v_seg k162 5 (pc' := 170) (ls' := [(0, aR 48 0)]) (st' := []) (X' := (sJ (sJ (W1 X) 63 0 0 (nL 1)) 64 0 0 (nL 1)).1) (cs' := [vp_in (nI 0) 8, allw 64 0]) rfl ⟨vin (by decide), rfl⟩ ?_
  refine v_seg k162 5 (pc' := 177) (ls' := [(0, aR 48 0)]) (st' := []) (X' := (W2 X).1) (cs' := [vp_in (nI 0) 8, allw 62 0]) rfl ⟨vin (by decide), rfl⟩ ?_
  refine v_seg k162 3 (pc' := 182) (ls' := [(0, aR 48 0)]) (st' := []) (X' := (sI (W2 X) 48 0 33 (nI 1)).1) (cs' := [allw 48 0]) rfl rfl ?_
  refine v_seg k162 3 (pc' := 187) (ls' := [(0, aR 48 0)]) (st' := []) (X' := (W3 X).1) (cs' := [allw 48 0]) rfl rfl ?_
  refine v_seg k162 1 (pc' := 188) (ls' := [(0, aR 48 0)]) (st' := [aR 48 0]) (X' := (W3 X).1) (cs' := []) rfl trivial ?_
  refine k_callV (R := sr (W3 X).2) (c := cF (W3 X).2) k162 (st := []) rfl (k_mt (sn_269 () Z h269) L) rfl rfl rfl rfl rfl rfl rfl rfl ?_
  exact k_ret k162 rfl rfl rfl
/-! behind both constructors both sides are related -/
theorem RR.tm {Y : Sm} {c : Nat} (h : RR Y c) {g : Nat → Nat} (hg : ∀ a, a < 1000 → g a = Y.2 a) : RR (Y.1, g) c := by
  obtain ⟨P, tu, ro, u, pos, b, h1, h2, h3, h4, h5, h6⟩ := h
  have A8 : P.2.1 ≤ 8 := h1.a8.2.2.2
  have st : ∀ {n : Nat} {r : Nat → Int32}, n < 900 → St Y n P r c → St (Y.1, g) n P r c := fun hn hs => hs.frk A8 (hg 0 (by omega)) (hg _ (by omega)) (fun _ _ _ => rfl) rfl
  obtain ⟨n1, n2⟩ := h6
  refine ⟨P, tu, ro, u, pos, b, h1.cg (fun _ _ _ => rfl) rfl rfl (hg 0 (by omega)) (hg 1 (by omega)), st (by omega) h2, ?_, ?_, h5, ?_, ?_⟩
  · obtain ⟨u1, u2, u3, u4, u5⟩ := h3
    exact ⟨u1, u2, u3, u4, fun j hj => st (by unfold hx; omega) (u5 j hj)⟩
  · obtain ⟨s1, s2, s3⟩ := h4
    exact ⟨s1, s2, fun hb => st (by omega) (s3 hb)⟩
  · show ∀ k, k < P.1 → NmR (gJ Y.1 6 (g 0) k) (gJ Y.1 50 0 k)
    rw [hg 0 (by omega)]
    exact n1
  · show ∀ a, a < P.2.1 → NmR (gJ Y.1 8 (g 0) a) (gJ Y.1 51 0 a)
    rw [hg 0 (by omega)]
    exact n2
set_option maxRecDepth 100000 in
theorem y48 (xs : Nat → Int32) (x : Nat) : gI (Y55 xs).1 48 0 x = nI 0 := rfl
theorem w3_k {X : Mm} {k i : Nat} (hk : k < 48) : gI (W3 X).1 k i = gI X k i ∧ gJ (W3 X).1 k i = gJ X k i := by
  have e1 : gI (WM X).1 k i = gI X k i := by
    funext j
    show gI (uI (uI X 48 0 19 (-1 : Int32)) 48 0 32 (-1 : Int32)) k i j = _
    rw [(uI_off (fun q => by omega) j).1, (uI_off (fun q => by omega) j).1]
  refine ⟨?_, ?_⟩
  · unfold W3 W2 W1
    rw [gI_sIk (by omega), gI_sIk (by omega), gI_sIk (by omega), gI_sJ, gI_sJ, gI_sIk (by omega), gI_sFk (by omega), gI_sIk (by omega), gI_sIk (by omega), gI_sIk (by omega), gI_sIk (by omega), gI_sIk (by omega), gI_sIk (by omega), gI_sIk (by omega), gI_sIk (by omega)]
    exact e1
  · funext j
    unfold W3 W2
    show gJ (sJ (sJ (W1 X) 63 0 0 (nL 1)) 64 0 0 (nL 1)).1 k i j = _
    rw [gJ_sJ, if_neg (fun q => by omega), gJ_sJ, if_neg (fun q => by omega)]
    rfl
theorem st_W3 {X : Mm} (h48 : ∀ x, gI X 48 0 x = nI 0) : StW (W3 X) := by
  have m48 : ∀ x, x ≠ 33 → x ≠ 34 → x ≠ 35 → gI (W3 X).1 48 0 x = gI (kmM X) 48 0 x := fun x h1 h2 h3 => by
    unfold W3 W2 W1
    rw [gI_sIv, upd_ne h2, gI_sIv, upd_ne h1, gI_sIk (by omega), gI_sJ, gI_sJ, gI_sIk (by omega), gI_sFk (by omega), gI_sIk (by omega), gI_sIk (by omega), gI_sIk (by omega), gI_sIk (by omega), gI_sIk (by omega), gI_sIv, upd_ne h3, gI_sIv, upd_ne h2, gI_sIv, upd_ne h1]
    rfl
  have k48 : ∀ x, x ≠ 19 → x ≠ 32 → gI (kmM X) 48 0 x = nI 0 := fun x h1 h2 => by
    show gI (uI (uI X 48 0 19 (-1 : Int32)) 48 0 32 (-1 : Int32)) 48 0 x = nI 0
    rw [uI_upd, upd_ne h2, uI_upd, upd_ne h1]
    exact h48 x
  have e53 : gI (W3 X).1 53 0 = upd (fun q => if q < 718 then nI 0 else gI (WM X).1 53 0 q) 8 (-1 : Int32) := by
    unfold W3 W2 W1
    rw [gI_sIk (by omega), gI_sIk (by omega), gI_sIk (by omega), gI_sJ, gI_sJ, gI_sIv, gI_sFs]
  have e61 : gI (W3 X).1 61 0 = upd (upd (upd (upd (upd (gI (WM X).1 61 0) 0 (nI 3)) 1 (nI 6)) 2 (nI 10)) 3 (nI 0)) 4 (nI 3) := by
    unfold W3 W2 W1
    rw [gI_sIk (by omega), gI_sIk (by omega), gI_sIk (by omega), gI_sJ, gI_sJ, gI_sIk (by omega), gI_sFk (by omega), gI_sIv, gI_sIv, gI_sIv, gI_sIv, gI_sIv, gI_sIk (by omega), gI_sIk (by omega), gI_sIk (by omega)]
  refine ⟨⟨?_, ?_, ?_⟩, ⟨?_, ?_, ?_⟩, fun j hj => ?_, fun q hq h8 => ?_, ?_, ?_, ?_, ?_, ?_, ?_⟩
  · unfold W3
    rw [gI_sIv, upd_ne (by omega), gI_sIv, upd_at]
  · unfold W3
    rw [gI_sIv, upd_at]
  · unfold W3 W2 W1
    rw [gI_sIv, upd_ne (by omega), gI_sIv, upd_ne (by omega), gI_sIk (by omega), gI_sJ, gI_sJ, gI_sIk (by omega), gI_sFk (by omega), gI_sIk (by omega), gI_sIk (by omega), gI_sIk (by omega), gI_sIk (by omega), gI_sIk (by omega), gI_sIv, upd_at]
  · unfold W3 W2
    show gJ (sJ (sJ (W1 X) 63 0 0 (nL 1)) 64 0 0 (nL 1)).1 63 0 0 = _
    rw [gJ_sJ, if_neg (by decide), gJ_sJ, if_pos ⟨rfl, rfl, rfl⟩]
  · unfold W3 W2
    show gJ (sJ (sJ (W1 X) 63 0 0 (nL 1)) 64 0 0 (nL 1)).1 64 0 0 = _
    rw [gJ_sJ, if_pos ⟨rfl, rfl, rfl⟩]
  · unfold W3 W2
    rw [gI_sIk (by omega), gI_sIk (by omega), gI_sIv, upd_at]
  · rw [e61]
    match j, hj with
    | 0, _ => rfl
    | 1, _ => rfl
    | 2, _ => rfl
    | 3, _ => rfl
    | 4, _ => rfl
    | (j + 5), hj => exact absurd hj (by omega)
  · rw [e53, upd_ne h8, if_pos hq]
  · rw [e53, upd_at]
  · rw [m48 19 (by omega) (by omega) (by omega)]
    show gI (uI (uI X 48 0 19 (-1 : Int32)) 48 0 32 (-1 : Int32)) 48 0 19 = _
    rw [uI_upd, upd_ne (by omega), uI_upd, upd_at]
  · rw [m48 23 (by omega) (by omega) (by omega)]; exact k48 23 (by omega) (by omega)
  · rw [m48 31 (by omega) (by omega) (by omega)]; exact k48 31 (by omega) (by omega)
  · rw [m48 32 (by omega) (by omega) (by omega)]
    show gI (uI (uI X 48 0 19 (-1 : Int32)) 48 0 32 (-1 : Int32)) 48 0 32 = _
    rw [uI_upd, upd_at]
  · rw [m48 41 (by omega) (by omega) (by omega)]; exact k48 41 (by omega) (by omega)
/-- both constructors, one behind another -/
theorem both_ct (xs : Nat → Int32) : ∃ T Z : Sm, T.2 = g0 ∧ (∀ L, Kc 103 7 410 9827 L (inc cB 0) (rP g0 [(0, 0, nof)]) (xM xs) [aR 0 0] (cF T.2) (sr T.2) T.1) ∧ (∀ L, Kc 162 6 17 9951 L (inc nF1 48) (rP g0 [(48, 0, nof)]) T.1 [aR 48 0] (cF Z.2) (sr Z.2) Z.1) ∧ Z.2 = g2 ∧ RR Z 0 := by
  obtain ⟨T, h71, hF, -⟩ := ct103 xs 0
  have hT2 : T.2 = g0 := by
    rw [hF.1]
    funext a
    show (if a = 3 then 1 else g0 a) = g0 a
    by_cases h : a = 3
    · rw [if_pos h, h]; rfl
    · rw [if_neg h]
  have nS : ∀ x, gI T.1 48 0 x = nI 0 := fun x => by
    have h := (hF.2 48 0 (by unfold S2; decide)).1
    rw [h, gI_sG]
    exact y48 xs x
  obtain ⟨Z, h269, hRR⟩ := rr_start (W := W3 T.1) (st_Y55 xs) h71 (fun a ha => by
    rw [hT2]
    show g2 a = g0 a
    exact ug_ne (by omega)) (fun k i hk => w3_k hk) (st_W3 nS) (st_W3 nS).2.2.2.2.2.2.2.2.2
  refine ⟨T, Z, hT2, fun L => ?_, fun L => ct162 h269, ?_, hRR⟩
  · obtain ⟨T', h71', -, h⟩ := ct103 xs L
    have e : T' = T := (Prod.mk.inj (Option.some.inj (h71'.symm.trans h71))).2
    subst e
    exact h
  · have h := (r_269 (W := W3 T.1) (C := 1) (A := 1) (by omega) (by omega) (st_W3 nS).1.1 (st_W3 nS).1.2.1)
    obtain ⟨Zr, e9, ⟨t1, -⟩, -⟩ := h
    have e : Zr = Z := (Prod.mk.inj (Option.some.inj (e9.symm.trans h269))).2
    subst e
    exact t1
