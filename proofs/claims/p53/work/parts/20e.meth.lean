/-! the code of the methods does what their functions say (printed by wip/whole/gen20.py) -/
set_option maxRecDepth 20000 in
set_option maxHeartbeats 4000000 in
/-- BallotBus$State.finish -/
theorem sn_92 (i0 : Nat) (a1 : Int32) {Y : Sm} (v : Unit) (Z : Sm) (h : fn_92 i0 a1 Y = some (v, Z)) : Mt 5 0 92 [aR 21 i0, aI a1] Y (Rt none Z) nX := by
  refine Mt_of [(0, aR 21 i0), (1, aI a1)] ?_
  generalize ho : (v, Z) = o at h
  have hv9 : v = o.1 := congrArg Prod.fst ho
  have hZ9 : Z = o.2 := congrArg Prod.snd ho
  clear ho
  subst hv9 hZ9
  unfold fn_92 at h
  refine w_sg k92 5 (pc' := 9) (ls' := [(0, aR 21 i0), (1, aI a1)]) (st' := [aR 14 (i0 + 3)]) (cs' := [vp_in (nI 0) 6]) (fun _ => rfl) (al1 (vin rfl)) ?_
  obtain ⟨hc1, h⟩ := ck_some h
  refine w_sg k92 3 (pc' := 12) (ls' := [(0, aR 21 i0), (1, aI a1), (2, aI (gI Y.1 14 (i0 + 3) (ix a1)))]) (st' := []) (cs' := [vp_in a1 40]) (fun _ => rfl) (al1 (vin hc1)) ?_
  refine w_sg k92 5 (pc' := 21) (ls' := [(0, aR 21 i0), (1, aI a1), (2, aI (gI Y.1 14 (i0 + 3) (ix a1)))]) (st' := [aR 15 (i0 + 3)]) (cs' := [vp_in (nI 1) 6]) (fun _ => rfl) (al1 (vin rfl)) ?_
  refine w_sg k92 3 (pc' := 24) (ls' := [(0, aR 21 i0), (1, aI a1), (2, aI (gI Y.1 14 (i0 + 3) (ix a1))), (3, aI (gI Y.1 15 (i0 + 3) (ix a1)))]) (st' := []) (cs' := [vp_in a1 40]) (fun _ => rfl) (al1 (vin hc1)) ?_
  refine w_sg k92 8 (pc' := 38) (ls' := [(0, aR 21 i0), (1, aI a1), (2, aI (gI Y.1 14 (i0 + 3) (ix a1))), (3, aI (gI Y.1 15 (i0 + 3) (ix a1)))]) (st' := [aR 16 (i0 + 3), aI (gI Y.1 14 (i0 + 3) (ix a1)), aR 28 i0]) (cs' := [vp_in (nI 2) 6]) (fun _ => rfl) (al1 (vin rfl)) ?_
  refine w_sg k92 2 (pc' := 40) (ls' := [(0, aR 21 i0), (1, aI a1), (2, aI (gI Y.1 14 (i0 + 3) (ix a1))), (3, aI (gI Y.1 15 (i0 + 3) (ix a1)))]) (st' := [aI (gI Y.1 16 (i0 + 3) (ix a1)), aI (gI Y.1 14 (i0 + 3) (ix a1)), aR 28 i0]) (cs' := [vp_in a1 40]) (fun _ => rfl) (al1 (vin hc1)) ?_
  obtain ⟨v4, Y2, hv3, h⟩ := bd_some h
  refine w_cV1 k92 (sn_7 _ _ _ _ _ hv3) rfl (st := []) rfl ?_ (fun _ _ q => q.elim)
  refine w_sg k92 1 (pc' := 45) (ls' := [(0, aR 21 i0), (1, aI a1), (2, aI (gI Y.1 14 (i0 + 3) (ix a1))), (3, aI (gI Y.1 15 (i0 + 3) (ix a1))), (4, aI v4)]) (st' := []) (cs' := []) (fun _ => rfl) al0 ?_
  obtain ⟨hc5, h⟩ := ck_some h
  refine w_sw k92 8 (Z := (sI Y2 24 i0 (ix (gI Y.1 15 (i0 + 3) (ix a1))) ((gI Y2.1 24 i0 (ix (gI Y.1 15 (i0 + 3) (ix a1)))) + (nI 1)))) (pc' := 55) (ls' := [(0, aR 21 i0), (1, aI a1), (2, aI (gI Y.1 14 (i0 + 3) (ix a1))), (3, aI (gI Y.1 15 (i0 + 3) (ix a1))), (4, aI v4)]) (st' := []) (cs' := [vp_in (gI Y.1 15 (i0 + 3) (ix a1)) 5, vp_in (gI Y.1 15 (i0 + 3) (ix a1)) 5, allw 24 i0]) (fun _ => rfl) rfl (al2 (vin hc5) (al2 (vin hc5) (al1 rfl))) ?_
  replace h := wr_some h
  generalize (sI Y2 24 i0 (ix (gI Y.1 15 (i0 + 3) (ix a1))) ((gI Y2.1 24 i0 (ix (gI Y.1 15 (i0 + 3) (ix a1)))) + (nI 1))) = Y6 at h ⊢
  refine w_sg k92 8 (pc' := 67) (ls' := [(0, aR 21 i0), (1, aI a1), (2, aI (gI Y.1 14 (i0 + 3) (ix a1))), (3, aI (gI Y.1 15 (i0 + 3) (ix a1))), (4, aI v4)]) (st' := [aR 21 i0, aI (gI Y6.1 21 i0 1), aJ (gJ Y6.1 25 i0 (ix (gI Y.1 15 (i0 + 3) (ix a1)))), aI (gI Y.1 15 (i0 + 3) (ix a1)), aR 25 i0]) (cs' := [vp_in (gI Y.1 15 (i0 + 3) (ix a1)) 5]) (fun _ => rfl) (al1 (vin hc5)) ?_
  refine w_sg k92 4 (pc' := 75) (ls' := [(0, aR 21 i0), (1, aI a1), (2, aI (gI Y.1 14 (i0 + 3) (ix a1))), (3, aI (gI Y.1 15 (i0 + 3) (ix a1))), (4, aI v4)]) (st' := [aR 18 (i0 + 3), aI (gI Y6.1 21 i0 1), aJ (gJ Y6.1 25 i0 (ix (gI Y.1 15 (i0 + 3) (ix a1)))), aI (gI Y.1 15 (i0 + 3) (ix a1)), aR 25 i0]) (cs' := [vp_in (nI 4) 6]) (fun _ => rfl) (al1 (vin rfl)) ?_
  refine w_sw k92 6 (Z := (sJ Y6 25 i0 (ix (gI Y.1 15 (i0 + 3) (ix a1))) ((gJ Y6.1 25 i0 (ix (gI Y.1 15 (i0 + 3) (ix a1)))) + (((gI Y6.1 21 i0 1) - (gI Y6.1 18 (i0 + 3) (ix a1))).toInt64)))) (pc' := 81) (ls' := [(0, aR 21 i0), (1, aI a1), (2, aI (gI Y.1 14 (i0 + 3) (ix a1))), (3, aI (gI Y.1 15 (i0 + 3) (ix a1))), (4, aI v4)]) (st' := []) (cs' := [vp_in a1 40, vp_in (gI Y.1 15 (i0 + 3) (ix a1)) 5, allw 25 i0]) (fun _ => rfl) rfl (al2 (vin hc1) (al2 (vin hc5) (al1 rfl))) ?_
  replace h := wr_some h
  generalize (sJ Y6 25 i0 (ix (gI Y.1 15 (i0 + 3) (ix a1))) ((gJ Y6.1 25 i0 (ix (gI Y.1 15 (i0 + 3) (ix a1)))) + (((gI Y6.1 21 i0 1) - (gI Y6.1 18 (i0 + 3) (ix a1))).toInt64))) = Y7 at h ⊢
  refine w_sw k92 6 (Z := (sI Y7 21 i0 8 ((gI Y7.1 21 i0 8) + (nI 1)))) (pc' := 91) (ls' := [(0, aR 21 i0), (1, aI a1), (2, aI (gI Y.1 14 (i0 + 3) (ix a1))), (3, aI (gI Y.1 15 (i0 + 3) (ix a1))), (4, aI v4)]) (st' := []) (cs' := [allw 21 i0]) (fun _ => rfl) rfl (al1 rfl) ?_
  replace h := wr_some h
  generalize (sI Y7 21 i0 8 ((gI Y7.1 21 i0 8) + (nI 1))) = Y8 at h ⊢
  refine w_sg k92 8 (pc' := 106) (ls' := [(0, aR 21 i0), (1, aI a1), (2, aI (gI Y.1 14 (i0 + 3) (ix a1))), (3, aI (gI Y.1 15 (i0 + 3) (ix a1))), (4, aI v4)]) (st' := [aI v4, aI (gI Y8.1 21 i0 1), aI a1, aR 12 (i0 + 3), aR 35 i0]) (cs' := []) (fun _ => rfl) al0 ?_
  obtain ⟨_, Y9, hv10, h⟩ := bd_some h
  refine w_cV0 k92 (sn_11 _ _ _ _ _ _ _ hv10) rfl (st := []) rfl ?_ (fun _ _ q => q.elim)
  refine w_sw k92 4 (Z := (sI Y9 12 (i0 + 3) 2 (-1 : Int32))) (pc' := 117) (ls' := [(0, aR 21 i0), (1, aI a1), (2, aI (gI Y.1 14 (i0 + 3) (ix a1))), (3, aI (gI Y.1 15 (i0 + 3) (ix a1))), (4, aI v4)]) (st' := []) (cs' := [allw 12 (i0 + 3)]) (fun _ => rfl) rfl (al1 rfl) ?_
  replace h := wr_some h
  generalize (sI Y9 12 (i0 + 3) 2 (-1 : Int32)) = Y11 at h ⊢
  refine w_sg k92 3 (pc' := 122) (ls' := [(0, aR 21 i0), (1, aI a1), (2, aI (gI Y.1 14 (i0 + 3) (ix a1))), (3, aI (gI Y.1 15 (i0 + 3) (ix a1))), (4, aI v4)]) (st' := [aI a1, aR 12 (i0 + 3)]) (cs' := []) (fun _ => rfl) al0 ?_
  obtain ⟨_, Y12, hv13, h⟩ := bd_some h
  refine w_cV0 k92 (sn_37 _ _ _ _ hv13) rfl (st := []) rfl ?_ (fun _ _ q => q.elim)
  obtain rfl := Option.some.inj h
  exact w_return k92 ⟨rfl, rfl⟩
set_option maxRecDepth 20000 in
set_option maxHeartbeats 4000000 in
/-- BallotBus$State.work -/
theorem sn_91 (i0 : Nat) {Y : Sm} (v : Unit) (Z : Sm) (h : fn_91 i0 Y = some (v, Z)) : Mt 6 0 91 [aR 21 i0] Y (Rt none Z) nX := by
  refine Mt_of [(0, aR 21 i0)] ?_
  generalize ho : (v, Z) = o at h
  have hv9 : v = o.1 := congrArg Prod.fst ho
  have hZ9 : Z = o.2 := congrArg Prod.snd ho
  clear ho
  subst hv9 hZ9
  unfold fn_91 at h
  refine w_sg k91 5 (pc' := 11) (ls' := [(0, aR 21 i0)]) (st' := [aI (gI Y.1 12 (i0 + 3) 2), aR 12 (i0 + 3)]) (cs' := []) (fun _ => rfl) al0 ?_
  obtain ⟨v3, Y1, hv2, h⟩ := bd_some h
  refine w_cV1 k91 (sn_38 _ _ _ _ hv2) rfl (st := []) rfl ?_ (fun _ _ q => q.elim)
  refine w_sg k91 1 (pc' := 15) (ls' := [(0, aR 21 i0), (1, aI v3)]) (st' := []) (cs' := []) (fun _ => rfl) al0 ?_
  refine w_sg k91 2 (pc' := 17) (ls' := [(0, aR 21 i0), (1, aI v3)]) (st' := [aI (-1 : Int32), aI v3]) (cs' := []) (fun _ => rfl) al0 ?_
  refine w_icmp_ne k91 rfl (fun c => ?_) (fun c => ?_)
  · replace h := if_f c h
    refine w_sg k91 5 (pc' := 30) (ls' := [(0, aR 21 i0), (1, aI v3)]) (st' := [aR 17 (i0 + 3)]) (cs' := [vp_in (nI 3) 6]) (fun _ => rfl) (al1 (vin rfl)) ?_
    obtain ⟨hc4, h⟩ := ck_some h
    refine w_sw k91 6 (Z := (sI Y1 17 (i0 + 3) (ix v3) ((gI Y1.1 17 (i0 + 3) (ix v3)) - (nI 1)))) (pc' := 36) (ls' := [(0, aR 21 i0), (1, aI v3)]) (st' := []) (cs' := [vp_in v3 40, vp_in v3 40, allw 17 (i0 + 3)]) (fun _ => rfl) rfl (al2 (vin hc4) (al2 (vin hc4) (al1 rfl))) ?_
    replace h := wr_some h
    generalize (sI Y1 17 (i0 + 3) (ix v3) ((gI Y1.1 17 (i0 + 3) (ix v3)) - (nI 1))) = Y5 at h ⊢
    refine w_sg k91 5 (pc' := 45) (ls' := [(0, aR 21 i0), (1, aI v3)]) (st' := [aR 17 (i0 + 3)]) (cs' := [vp_in (nI 3) 6]) (fun _ => rfl) (al1 (vin rfl)) ?_
    refine w_sg k91 2 (pc' := 47) (ls' := [(0, aR 21 i0), (1, aI v3)]) (st' := [aI (gI Y5.1 17 (i0 + 3) (ix v3))]) (cs' := [vp_in v3 40]) (fun _ => rfl) (al1 (vin hc4)) ?_
    refine w_if_gt k91 rfl (fun c => ?_) (fun c => ?_)
    · replace h := if_t c h
      obtain rfl := Option.some.inj h
      exact w_return k91 ⟨rfl, rfl⟩
    · replace h := if_f c h
      refine w_sg k91 2 (pc' := 52) (ls' := [(0, aR 21 i0), (1, aI v3)]) (st' := [aI v3, aR 21 i0]) (cs' := []) (fun _ => rfl) al0 ?_
      obtain ⟨_, Y6, hv7, h⟩ := bd_some h
      refine w_cV0 k91 (sn_92 _ _ _ _ hv7) rfl (st := []) rfl ?_ (fun _ _ q => q.elim)
      obtain rfl := Option.some.inj h
      exact w_return k91 ⟨rfl, rfl⟩
  · replace h := if_t c h
    obtain rfl := Option.some.inj h
    exact w_return k91 ⟨rfl, rfl⟩
set_option maxRecDepth 20000 in
set_option maxHeartbeats 4000000 in
/-- BallotBus$State.takeUp -/
theorem sn_90 (i0 : Nat) {Y : Sm} (v : Unit) (Z : Sm) (h : fn_90 i0 Y = some (v, Z)) : Mt 7 0 90 [aR 21 i0] Y (Rt none Z) nX := by
  refine Mt_of [(0, aR 21 i0)] ?_
  generalize ho : (v, Z) = o at h
  have hv9 : v = o.1 := congrArg Prod.fst ho
  have hZ9 : Z = o.2 := congrArg Prod.snd ho
  clear ho
  subst hv9 hZ9
  unfold fn_90 at h
  have L2_0 : ∀ (l0 : Nat) (n : Nat) (l1 : Int32) (Y : Sm) (e4 : (Int32 × Sm) ⊕ (Unit × Sm)), lp (fun s => fn_90_L2 l0 s.1 s.2) n (l1, Y) = some e4 → (∀ s9 : (Int32 × Sm), e4 = .inl s9 → Wm 7 0 90 0 46 [(0, aR 21 l0), (2, aI s9.1)] [] s9.2 (Rt none o.2) nX) → (∀ r, e4 = .inr r → r = o) → Wm 7 0 90 0 2 [(0, aR 21 l0), (1, aI l1)] [] Y (Rt none o.2) nX := by
    intro l0 n
    induction n with
    | zero => intro l1 Y e4 h; cases h
    | succ n ih3 =>
      intro l1 Y e4 h kE5 kR6
      obtain ⟨q1, h, hn2⟩ := lp_succ h
      replace h : fn_90_L2 l0 l1 Y = some q1 := h
      unfold fn_90_L2 at h
      have J40_0 : ∀ (l1 : Int32) (t0 : Int32) (Y : Sm), fn_90_J40_d1 l0 l1 t0 Y = some q1 → Wm 7 0 90 0 40 [(0, aR 21 l0), (1, aI l1)] [aI t0] Y (Rt none o.2) nX := by
        intro l1 t0 Y h
        unfold fn_90_J40_d1 at h
        refine w_sg k90 1 (pc' := 41) (ls' := [(0, aR 21 l0), (1, aI l1), (2, aI t0)]) (st' := []) (cs' := []) (fun _ => rfl) al0 ?_
        refine w_sg k90 2 (pc' := 43) (ls' := [(0, aR 21 l0), (1, aI l1), (2, aI t0)]) (st' := [aI (-1 : Int32), aI t0]) (cs' := []) (fun _ => rfl) al0 ?_
        refine w_icmp_eq k90 rfl (fun c => ?_) (fun c => ?_)
        · replace h := if_t c h
          refine w_sg k90 1 (pc' := 65) (ls' := [(0, aR 21 l0), (1, aI (l1 + (nI 1))), (2, aI t0)]) (st' := []) (cs' := []) (fun _ => rfl) al0 ?_
          refine w_sg k90 1 (pc' := 2) (ls' := [(0, aR 21 l0), (1, aI (l1 + (nI 1))), (2, aI t0)]) (st' := []) (cs' := []) (fun _ => rfl) al0 ?_
          refine w_ls [(0, aR 21 l0), (1, aI (l1 + (nI 1)))] (lq_c rfl (lq_c rfl lq_n)) ?_
          obtain rfl := Option.some.inj h
          exact ih3 _ _ _ (lpn_l hn2) kE5 kR6
        · replace h := if_f c h
          refine w_ls [(0, aR 21 l0), (2, aI t0)] (lq_c rfl (lq_c rfl lq_n)) ?_
          obtain rfl := Option.some.inj h
          obtain rfl := lpn_r hn2
          exact kE5 (t0, Y) rfl
      refine w_sg k90 4 (pc' := 10) (ls' := [(0, aR 21 l0), (1, aI l1)]) (st' := [aI (gI Y.1 5 (Y.2 (l0 + 3)) 0), aI l1]) (cs' := []) (fun _ => rfl) al0 ?_
      refine w_icmp_ge k90 rfl (fun c => ?_) (fun c => ?_)
      · replace h := if_t c h
        obtain rfl := Option.some.inj h
        obtain rfl := lpn_r hn2
        obtain rfl := kR6 _ rfl
        exact w_return k90 ⟨rfl, rfl⟩
      · replace h := if_f c h
        obtain ⟨hc7, h⟩ := ck_some h
        refine w_sg k90 5 (pc' := 20) (ls' := [(0, aR 21 l0), (1, aI l1)]) (st' := [aI (gI Y.1 22 l0 (ix l1)), aR 21 l0]) (cs' := [vp_in l1 5]) (fun _ => rfl) (al1 (vin hc7)) ?_
        obtain ⟨v10, Y8, hv9, h⟩ := bd_some h
        refine w_cV1 k90 (sn_74 _ _ _ _ hv9) rfl (st := []) rfl ?_ (fun _ _ q => q.elim)
        refine w_if_eq k90 rfl (fun c => ?_) (fun c => ?_)
        · replace h := if_t c h
          refine w_sg k90 5 (pc' := 37) (ls' := [(0, aR 21 l0), (1, aI l1)]) (st' := [aI (gI Y8.1 22 l0 (ix l1)), aR 21 l0]) (cs' := [vp_in l1 5]) (fun _ => rfl) (al1 (vin hc7)) ?_
          obtain ⟨v13, Y11, hv12, h⟩ := bd_some h
          refine w_cV1 k90 (sn_76 _ _ _ _ hv12) rfl (st := []) rfl ?_ (fun _ _ q => q.elim)
          refine w_ls [(0, aR 21 l0), (1, aI l1)] (lq_c rfl (lq_c rfl lq_n)) ?_
          exact J40_0 _ _ _ h
        · replace h := if_f c h
          refine w_sg k90 2 (pc' := 40) (ls' := [(0, aR 21 l0), (1, aI l1)]) (st' := [aI (-1 : Int32)]) (cs' := []) (fun _ => rfl) al0 ?_
          refine w_ls [(0, aR 21 l0), (1, aI l1)] (lq_c rfl (lq_c rfl lq_n)) ?_
          exact J40_0 _ _ _ h
  have J46_0 : ∀ (l0 : Nat) (l2 : Int32) (Y : Sm), fn_90_J46 l0 l2 Y = some o → Wm 7 0 90 0 46 [(0, aR 21 l0), (2, aI l2)] [] Y (Rt none o.2) nX := by
    intro l0 l2 Y h
    unfold fn_90_J46 at h
    refine w_sg k90 5 (pc' := 55) (ls' := [(0, aR 21 l0), (2, aI l2)]) (st' := [aI l2, aR 12 (l0 + 3), aR 12 (l0 + 3)]) (cs' := []) (fun _ => rfl) al0 ?_
    obtain ⟨v16, Y14, hv15, h⟩ := bd_some h
    refine w_cV1 k90 (sn_39 _ _ _ _ hv15) rfl (st := [aR 12 (l0 + 3)]) rfl ?_ (fun _ _ q => q.elim)
    refine w_sw k90 1 (Z := (sI Y14 12 (l0 + 3) 2 v16)) (pc' := 61) (ls' := [(0, aR 21 l0), (2, aI l2)]) (st' := []) (cs' := [allw 12 (l0 + 3)]) (fun _ => rfl) rfl (al1 rfl) ?_
    replace h := wr_some h
    generalize (sI Y14 12 (l0 + 3) 2 v16) = Y17 at h ⊢
    obtain rfl := Option.some.inj h
    exact w_return k90 ⟨rfl, rfl⟩
  refine w_sg k90 2 (pc' := 2) (ls' := [(0, aR 21 i0), (1, aI (nI 0))]) (st' := []) (cs' := []) (fun _ => rfl) al0 ?_
  obtain ⟨e20, hl18, hx19⟩ := exd_some h
  refine w_ls [(0, aR 21 i0), (1, aI (nI 0))] (lq_c rfl (lq_c rfl lq_n)) ?_
  refine L2_0 _ _ _ _ e20 hl18 (fun s9 hs9 => ?_) (fun r9 hr9 => ?_)
  · subst hs9
    replace h : fn_90_J46 i0 s9.1 s9.2 = some o := hx19
    refine w_ls [(0, aR 21 i0), (2, aI s9.1)] (lq_c rfl (lq_c rfl lq_n)) ?_
    exact J46_0 _ _ _ h
  · subst hr9
    exact hx19
set_option maxRecDepth 20000 in
set_option maxHeartbeats 4000000 in
/-- BallotBus$State.passTurn -/
theorem sn_89 (i0 : Nat) {Y : Sm} (v : Unit) (Z : Sm) (h : fn_89 i0 Y = some (v, Z)) : Mt 4 0 89 [aR 21 i0] Y (Rt none Z) nX := by
  refine Mt_of [(0, aR 21 i0)] ?_
  generalize ho : (v, Z) = o at h
  have hv9 : v = o.1 := congrArg Prod.fst ho
  have hZ9 : Z = o.2 := congrArg Prod.snd ho
  clear ho
  subst hv9 hZ9
  unfold fn_89 at h
  have J38_0 : ∀ (l0 : Nat) (Y : Sm), fn_89_J38 l0 Y = some o → Wm 4 0 89 0 38 [(0, aR 21 l0)] [] Y (Rt none o.2) nX := by
    intro l0 Y h
    unfold fn_89_J38 at h
    refine w_sw k89 3 (Z := (sI Y 21 l0 4 (nI 0))) (pc' := 43) (ls' := [(0, aR 21 l0)]) (st' := []) (cs' := [allw 21 l0, (nI 0) = 0 ∨ (nI 0) = 1]) (fun _ => rfl) rfl (al2 rfl (al1 (Or.inl rfl))) ?_
    replace h := wr_some h
    generalize (sI Y 21 l0 4 (nI 0)) = Y1 at h ⊢
    refine w_sg k89 8 (pc' := 57) (ls' := [(0, aR 21 l0)]) (st' := [aI (gI Y1.1 5 (Y1.2 (l0 + 3)) 3), aI ((gI Y1.1 21 l0 3) + (nI 1)), aR 21 l0]) (cs' := []) (fun _ => rfl) al0 ?_
    refine w_icmp_ge k89 rfl (fun c => ?_) (fun c => ?_)
    · replace h := if_t c h
      refine w_sw k89 2 (Z := (sI Y1 21 l0 3 (nI 0))) (pc' := 73) (ls' := [(0, aR 21 l0)]) (st' := []) (cs' := [allw 21 l0]) (fun _ => rfl) rfl (al1 rfl) ?_
      replace h := wr_some h
      generalize (sI Y1 21 l0 3 (nI 0)) = Y2 at h ⊢
      obtain rfl := Option.some.inj h
      exact w_return k89 ⟨rfl, rfl⟩
    · replace h := if_f c h
      refine w_sw k89 6 (Z := (sI Y1 21 l0 3 ((gI Y1.1 21 l0 3) + (nI 1)))) (pc' := 73) (ls' := [(0, aR 21 l0)]) (st' := []) (cs' := [allw 21 l0]) (fun _ => rfl) rfl (al1 rfl) ?_
      replace h := wr_some h
      generalize (sI Y1 21 l0 3 ((gI Y1.1 21 l0 3) + (nI 1))) = Y3 at h ⊢
      obtain rfl := Option.some.inj h
      exact w_return k89 ⟨rfl, rfl⟩
  refine w_sg k89 2 (pc' := 4) (ls' := [(0, aR 21 i0)]) (st' := [aI (gI Y.1 21 i0 4)]) (cs' := []) (fun _ => rfl) al0 ?_
  refine w_if_ne k89 rfl (fun c => ?_) (fun c => ?_)
  · replace h := if_f c h
    refine w_ls [(0, aR 21 i0)] (lq_c rfl lq_n) ?_
    exact J38_0 _ _ h
  · replace h := if_t c h
    refine w_sg k89 8 (pc' := 24) (ls' := [(0, aR 21 i0)]) (st' := [aR 28 i0, aI (nI 99), aI (gI Y.1 21 i0 3), aR 31 i0]) (cs' := []) (fun _ => rfl) al0 ?_
    obtain ⟨hc4, h⟩ := ck_some h
    refine w_sw k89 8 (Z := (sI Y 31 i0 (ix (gI Y.1 21 i0 3)) (if ((gI Y.1 31 i0 (ix (gI Y.1 21 i0 3))) + (nI 1)) < (nI 99) then ((gI Y.1 31 i0 (ix (gI Y.1 21 i0 3))) + (nI 1)) else (nI 99)))) (pc' := 38) (ls' := [(0, aR 21 i0)]) (st' := []) (cs' := [vp_in (gI Y.1 21 i0 3) 8, vp_in (gI Y.1 21 i0 3) 8, allw 31 i0]) (fun _ => rfl) rfl (al2 (vin hc4) (al2 (vin hc4) (al1 rfl))) ?_
    replace h := wr_some h
    generalize (sI Y 31 i0 (ix (gI Y.1 21 i0 3)) (if ((gI Y.1 31 i0 (ix (gI Y.1 21 i0 3))) + (nI 1)) < (nI 99) then ((gI Y.1 31 i0 (ix (gI Y.1 21 i0 3))) + (nI 1)) else (nI 99))) = Y5 at h ⊢
    refine w_ls [(0, aR 21 i0)] (lq_c rfl lq_n) ?_
    exact J38_0 _ _ h
set_option maxRecDepth 20000 in
set_option maxHeartbeats 4000000 in
/-- BallotBus$Poll.rank -/
theorem sn_30_39_22 (a1 : Int32) (i2 : Nat) {Y : Sm} (v : Unit) (Z : Sm) (h : fn_30_39_22 a1 i2 Y = some (v, Z)) : Mt 6 0 30 [aR 39 0, aI a1, aR 22 i2] Y (Rt none Z) nX := by
  refine Mt_of [(0, aR 39 0), (1, aI a1), (2, aR 22 i2)] ?_
  generalize ho : (v, Z) = o at h
  have hv9 : v = o.1 := congrArg Prod.fst ho
  have hZ9 : Z = o.2 := congrArg Prod.snd ho
  clear ho
  subst hv9 hZ9
  unfold fn_30_39_22 at h
  have L10_0 : ∀ (l1 : Int32) (l2 : Nat) (n : Nat) (l3 : Int32) (Y : Sm), lp (fun s => fn_30_39_22_L10 l1 l2 s.1 s.2) n (l3, Y) = some o → Wm 6 0 30 0 10 [(0, aR 39 0), (1, aI l1), (2, aR 22 l2), (3, aI l3)] [] Y (Rt none o.2) nX := by
    intro l1 l2 n
    induction n with
    | zero => intro l3 Y h; cases h
    | succ n ih3 =>
      intro l3 Y h
      obtain ⟨q1, h, hn2⟩ := lp_succ h
      replace h : fn_30_39_22_L10 l1 l2 l3 Y = some q1 := h
      unfold fn_30_39_22_L10 at h
      have L21_0 : ∀ (l3 : Int32) (n : Nat) (l4 : Int32) (Y : Sm), lp (fun s => fn_30_39_22_L21_d1 l1 l2 l3 s.1 s.2) n (l4, Y) = some q1 → Wm 6 0 30 0 21 [(0, aR 39 0), (1, aI l1), (2, aR 22 l2), (3, aI l3), (4, aI l4)] [] Y (Rt none o.2) nX := by
        intro l3 n
        induction n with
        | zero => intro l4 Y h; cases h
        | succ n ih6 =>
          intro l4 Y h
          obtain ⟨q4, h, hn5⟩ := lp_succ h
          replace h : fn_30_39_22_L21_d1 l1 l2 l3 l4 Y = some q4 := h
          unfold fn_30_39_22_L21_d1 at h
          refine w_sg k30 1 (pc' := 23) (ls' := [(0, aR 39 0), (1, aI l1), (2, aR 22 l2), (3, aI l3), (4, aI l4)]) (st' := [aI l4]) (cs' := []) (fun _ => rfl) al0 ?_
          refine w_if_le k30 rfl (fun c => ?_) (fun c => ?_)
          · replace h := if_t c h
            obtain ⟨hc7, h⟩ := ck_some h
            refine w_sw k30 4 (Z := (sI Y 22 l2 (ix l4) l3)) (pc' := 62) (ls' := [(0, aR 39 0), (1, aI l1), (2, aR 22 l2), (3, aI l3), (4, aI l4)]) (st' := []) (cs' := [vp_in l4 5, allw 22 l2]) (fun _ => rfl) rfl (al2 (vin hc7) (al1 rfl)) ?_
            replace h := wr_some h
            generalize (sI Y 22 l2 (ix l4) l3) = Y8 at h ⊢
            refine w_sg k30 1 (pc' := 65) (ls' := [(0, aR 39 0), (1, aI l1), (2, aR 22 l2), (3, aI (l3 + (nI 1))), (4, aI l4)]) (st' := []) (cs' := []) (fun _ => rfl) al0 ?_
            refine w_sg k30 1 (pc' := 10) (ls' := [(0, aR 39 0), (1, aI l1), (2, aR 22 l2), (3, aI (l3 + (nI 1))), (4, aI l4)]) (st' := []) (cs' := []) (fun _ => rfl) al0 ?_
            refine w_ls [(0, aR 39 0), (1, aI l1), (2, aR 22 l2), (3, aI (l3 + (nI 1)))] (lq_c rfl (lq_c rfl (lq_c rfl (lq_c rfl lq_n)))) ?_
            obtain rfl := Option.some.inj h
            obtain rfl := lpn_r hn5
            exact ih3 _ _ (lpn_l hn2)
          · replace h := if_f c h
            obtain ⟨hc9, h⟩ := ck_some h
            refine w_sg k30 8 (pc' := 35) (ls' := [(0, aR 39 0), (1, aI l1), (2, aR 22 l2), (3, aI l3), (4, aI l4)]) (st' := [aI l1, aI (gI Y.1 22 l2 (ix (l4 - (nI 1)))), aI l3, aR 39 0]) (cs' := [vp_in (l4 - (nI 1)) 5]) (fun _ => rfl) (al1 (vin hc9)) ?_
            obtain ⟨v12, Y10, hv11, h⟩ := bd_some h
            refine w_cV1 k30 (sn_31 _ _ _ _ _ hv11) rfl (st := []) rfl ?_ (fun _ _ q => q.elim)
            refine w_if_eq k30 rfl (fun c => ?_) (fun c => ?_)
            · replace h := if_t c h
              obtain ⟨hc13, h⟩ := ck_some h
              refine w_sw k30 4 (Z := (sI Y10 22 l2 (ix l4) l3)) (pc' := 62) (ls' := [(0, aR 39 0), (1, aI l1), (2, aR 22 l2), (3, aI l3), (4, aI l4)]) (st' := []) (cs' := [vp_in l4 5, allw 22 l2]) (fun _ => rfl) rfl (al2 (vin hc13) (al1 rfl)) ?_
              replace h := wr_some h
              generalize (sI Y10 22 l2 (ix l4) l3) = Y14 at h ⊢
              refine w_sg k30 1 (pc' := 65) (ls' := [(0, aR 39 0), (1, aI l1), (2, aR 22 l2), (3, aI (l3 + (nI 1))), (4, aI l4)]) (st' := []) (cs' := []) (fun _ => rfl) al0 ?_
              refine w_sg k30 1 (pc' := 10) (ls' := [(0, aR 39 0), (1, aI l1), (2, aR 22 l2), (3, aI (l3 + (nI 1))), (4, aI l4)]) (st' := []) (cs' := []) (fun _ => rfl) al0 ?_
              refine w_ls [(0, aR 39 0), (1, aI l1), (2, aR 22 l2), (3, aI (l3 + (nI 1)))] (lq_c rfl (lq_c rfl (lq_c rfl (lq_c rfl lq_n)))) ?_
              obtain rfl := Option.some.inj h
              obtain rfl := lpn_r hn5
              exact ih3 _ _ (lpn_l hn2)
            · replace h := if_f c h
              obtain ⟨hc15, h⟩ := ck_some h
              refine w_sw k30 8 (Z := (sI Y10 22 l2 (ix l4) (gI Y10.1 22 l2 (ix (l4 - (nI 1)))))) (pc' := 51) (ls' := [(0, aR 39 0), (1, aI l1), (2, aR 22 l2), (3, aI l3), (4, aI l4)]) (st' := []) (cs' := [vp_in (l4 - (nI 1)) 5, vp_in l4 5, allw 22 l2]) (fun _ => rfl) rfl (al2 (vin hc9) (al2 (vin hc15) (al1 rfl))) ?_
              replace h := wr_some h
              generalize (sI Y10 22 l2 (ix l4) (gI Y10.1 22 l2 (ix (l4 - (nI 1))))) = Y16 at h ⊢
              refine w_sg k30 1 (pc' := 54) (ls' := [(0, aR 39 0), (1, aI l1), (2, aR 22 l2), (3, aI l3), (4, aI (l4 + (-1 : Int32)))]) (st' := []) (cs' := []) (fun _ => rfl) al0 ?_
              refine w_sg k30 1 (pc' := 21) (ls' := [(0, aR 39 0), (1, aI l1), (2, aR 22 l2), (3, aI l3), (4, aI (l4 + (-1 : Int32)))]) (st' := []) (cs' := []) (fun _ => rfl) al0 ?_
              refine w_ls [(0, aR 39 0), (1, aI l1), (2, aR 22 l2), (3, aI l3), (4, aI (l4 + (-1 : Int32)))] (lq_c rfl (lq_c rfl (lq_c rfl (lq_c rfl (lq_c rfl lq_n))))) ?_
              obtain rfl := Option.some.inj h
              exact ih6 _ _ (lpn_l hn5)
      refine w_sg k30 3 (pc' := 15) (ls' := [(0, aR 39 0), (1, aI l1), (2, aR 22 l2), (3, aI l3)]) (st' := [aI (gI Y.1 39 0 0), aI l3]) (cs' := []) (fun _ => rfl) al0 ?_
      refine w_icmp_ge k30 rfl (fun c => ?_) (fun c => ?_)
      · replace h := if_t c h
        obtain rfl := Option.some.inj h
        obtain rfl := lpn_r hn2
        exact w_return k30 ⟨rfl, rfl⟩
      · replace h := if_f c h
        refine w_sg k30 2 (pc' := 21) (ls' := [(0, aR 39 0), (1, aI l1), (2, aR 22 l2), (3, aI l3), (4, aI l3)]) (st' := []) (cs' := []) (fun _ => rfl) al0 ?_
        refine w_ls [(0, aR 39 0), (1, aI l1), (2, aR 22 l2), (3, aI l3), (4, aI l3)] (lq_c rfl (lq_c rfl (lq_c rfl (lq_c rfl (lq_c rfl lq_n))))) ?_
        exact L21_0 _ _ _ _ h
  refine w_sg k30 2 (pc' := 4) (ls' := [(0, aR 39 0), (1, aI a1), (2, aR 22 i2)]) (st' := [aI (gI Y.1 39 0 1)]) (cs' := []) (fun _ => rfl) al0 ?_
  refine w_if_ne k30 rfl (fun c => ?_) (fun c => ?_)
  · replace h := if_f c h
    refine w_sg k30 2 (pc' := 10) (ls' := [(0, aR 39 0), (1, aI a1), (2, aR 22 i2), (3, aI (nI 0))]) (st' := []) (cs' := []) (fun _ => rfl) al0 ?_
    refine w_ls [(0, aR 39 0), (1, aI a1), (2, aR 22 i2), (3, aI (nI 0))] (lq_c rfl (lq_c rfl (lq_c rfl (lq_c rfl lq_n)))) ?_
    exact L10_0 _ _ _ _ _ h
  · replace h := if_t c h
    obtain rfl := Option.some.inj h
    exact w_return k30 ⟨rfl, rfl⟩
set_option maxRecDepth 20000 in
set_option maxHeartbeats 4000000 in
/-- BallotBus$State.holdVote -/
theorem sn_88 (i0 : Nat) {Y : Sm} (v : Unit) (Z : Sm) (h : fn_88 i0 Y = some (v, Z)) : Mt 7 0 88 [aR 21 i0, aR 39 0] Y (Rt none Z) nX := by
  refine Mt_of [(0, aR 21 i0), (1, aR 39 0)] ?_
  generalize ho : (v, Z) = o at h
  have hv9 : v = o.1 := congrArg Prod.fst ho
  have hZ9 : Z = o.2 := congrArg Prod.snd ho
  clear ho
  subst hv9 hZ9
  unfold fn_88 at h
  refine w_sg k88 3 (pc' := 3) (ls' := [(0, aR 21 i0), (1, aR 39 0)]) (st' := [aI (-1 : Int32), aR 21 i0, aR 39 0]) (cs' := []) (fun _ => rfl) al0 ?_
  obtain ⟨_, Y1, hv2, h⟩ := bd_some h
  refine w_cV0 k88 (sn_25 _ _ _ _ hv2) rfl (st := []) rfl ?_ (fun _ _ q => q.elim)
  refine w_sg k88 5 (pc' := 15) (ls' := [(0, aR 21 i0), (1, aR 39 0)]) (st' := [aR 22 i0, aI (gI Y1.1 21 i0 2), aR 39 0]) (cs' := []) (fun _ => rfl) al0 ?_
  obtain ⟨_, Y3, hv4, h⟩ := bd_some h
  refine w_cV0 k88 (sn_30_39_22 _ _ _ _ hv4) rfl (st := []) rfl ?_ (fun _ _ q => q.elim)
  refine w_sw k88 3 (Z := (sI Y3 21 i0 5 (nI 0))) (pc' := 23) (ls' := [(0, aR 21 i0), (1, aR 39 0)]) (st' := []) (cs' := [allw 21 i0]) (fun _ => rfl) rfl (al1 rfl) ?_
  replace h := wr_some h
  generalize (sI Y3 21 i0 5 (nI 0)) = Y5 at h ⊢
  refine w_sw k88 6 (Z := (sI Y5 21 i0 6 ((gI Y5.1 21 i0 6) + (nI 1)))) (pc' := 33) (ls' := [(0, aR 21 i0), (1, aR 39 0)]) (st' := []) (cs' := [allw 21 i0]) (fun _ => rfl) rfl (al1 rfl) ?_
  replace h := wr_some h
  generalize (sI Y5 21 i0 6 ((gI Y5.1 21 i0 6) + (nI 1))) = Y6 at h ⊢
  obtain rfl := Option.some.inj h
  exact w_return k88 ⟨rfl, rfl⟩
set_option maxRecDepth 20000 in
set_option maxHeartbeats 4000000 in
/-- BallotBus$State.tick -/
theorem sn_86 (i0 : Nat) {Y : Sm} (v : Unit) (Z : Sm) (h : fn_86 i0 Y = some (v, Z)) : Mt 8 0 86 [aR 21 i0, aR 39 0] Y (Rt none Z) nX := by
  refine Mt_of [(0, aR 21 i0), (1, aR 39 0)] ?_
  generalize ho : (v, Z) = o at h
  have hv9 : v = o.1 := congrArg Prod.fst ho
  have hZ9 : Z = o.2 := congrArg Prod.snd ho
  clear ho
  subst hv9 hZ9
  unfold fn_86 at h
  have J48_0 : ∀ (l0 : Nat) (Y : Sm), fn_86_J48 l0 Y = some o → Wm 8 0 86 0 48 [(0, aR 21 l0)] [] Y (Rt none o.2) nX := by
    intro l0 Y h
    unfold fn_86_J48 at h
    refine w_sg k86 4 (pc' := 56) (ls' := [(0, aR 21 l0)]) (st' := [aI (-1 : Int32), aI (gI Y.1 12 (l0 + 3) 2)]) (cs' := []) (fun _ => rfl) al0 ?_
    refine w_icmp_ne k86 rfl (fun c => ?_) (fun c => ?_)
    · replace h := if_f c h
      refine w_sg k86 1 (pc' := 64) (ls' := [(0, aR 21 l0)]) (st' := [aR 21 l0]) (cs' := []) (fun _ => rfl) al0 ?_
      obtain ⟨_, Y4, hv5, h⟩ := bd_some h
      refine w_cV0 k86 (sn_91 _ _ _ hv5) rfl (st := []) rfl ?_ (fun _ _ q => q.elim)
      refine w_sw k86 6 (Z := (sI Y4 21 l0 1 ((gI Y4.1 21 l0 1) + (nI 1)))) (pc' := 77) (ls' := [(0, aR 21 l0)]) (st' := []) (cs' := [allw 21 l0]) (fun _ => rfl) rfl (al1 rfl) ?_
      replace h := wr_some h
      generalize (sI Y4 21 l0 1 ((gI Y4.1 21 l0 1) + (nI 1))) = Y6 at h ⊢
      obtain rfl := Option.some.inj h
      exact w_return k86 ⟨rfl, rfl⟩
    · replace h := if_t c h
      refine w_sg k86 1 (pc' := 60) (ls' := [(0, aR 21 l0)]) (st' := [aR 21 l0]) (cs' := []) (fun _ => rfl) al0 ?_
      obtain ⟨_, Y7, hv8, h⟩ := bd_some h
      refine w_cV0 k86 (sn_90 _ _ _ hv8) rfl (st := []) rfl ?_ (fun _ _ q => q.elim)
      refine w_sg k86 1 (pc' := 64) (ls' := [(0, aR 21 l0)]) (st' := [aR 21 l0]) (cs' := []) (fun _ => rfl) al0 ?_
      obtain ⟨_, Y9, hv10, h⟩ := bd_some h
      refine w_cV0 k86 (sn_91 _ _ _ hv10) rfl (st := []) rfl ?_ (fun _ _ q => q.elim)
      refine w_sw k86 6 (Z := (sI Y9 21 l0 1 ((gI Y9.1 21 l0 1) + (nI 1)))) (pc' := 77) (ls' := [(0, aR 21 l0)]) (st' := []) (cs' := [allw 21 l0]) (fun _ => rfl) rfl (al1 rfl) ?_
      replace h := wr_some h
      generalize (sI Y9 21 l0 1 ((gI Y9.1 21 l0 1) + (nI 1))) = Y11 at h ⊢
      obtain rfl := Option.some.inj h
      exact w_return k86 ⟨rfl, rfl⟩
  have J21_0 : ∀ (l0 : Nat) (Y : Sm), fn_86_J21 l0 Y = some o → Wm 8 0 86 0 21 [(0, aR 21 l0)] [] Y (Rt none o.2) nX := by
    intro l0 Y h
    unfold fn_86_J21 at h
    refine w_sg k86 2 (pc' := 25) (ls' := [(0, aR 21 l0)]) (st' := [aI (gI Y.1 21 l0 1)]) (cs' := []) (fun _ => rfl) al0 ?_
    refine w_if_eq k86 rfl (fun c => ?_) (fun c => ?_)
    · replace h := if_t c h
      refine w_ls [(0, aR 21 l0)] (lq_c rfl lq_n) ?_
      exact J48_0 _ _ h
    · replace h := if_f c h
      refine w_sg k86 6 (pc' := 38) (ls' := [(0, aR 21 l0)]) (st' := [aI (gI Y.1 11 (Y.2 (l0 + 3)) 0), aR 21 l0]) (cs' := [vp_in (nI 0) 5]) (fun _ => rfl) (al1 (vin rfl)) ?_
      obtain ⟨v14, Y12, hv13, h⟩ := bd_some h
      refine w_cV1 k86 (sn_87 _ _ _ _ hv13) rfl (st := []) rfl ?_ (fun _ _ q => q.elim)
      refine w_if_eq k86 rfl (fun c => ?_) (fun c => ?_)
      · replace h := if_t c h
        refine w_ls [(0, aR 21 l0)] (lq_c rfl lq_n) ?_
        exact J48_0 _ _ h
      · replace h := if_f c h
        refine w_sg k86 1 (pc' := 45) (ls' := [(0, aR 21 l0)]) (st' := [aR 21 l0]) (cs' := []) (fun _ => rfl) al0 ?_
        obtain ⟨_, Y15, hv16, h⟩ := bd_some h
        refine w_cV0 k86 (sn_89 _ _ _ hv16) rfl (st := []) rfl ?_ (fun _ _ q => q.elim)
        refine w_ls [(0, aR 21 l0)] (lq_c rfl lq_n) ?_
        exact J48_0 _ _ h
  refine w_sg k86 6 (pc' := 10) (ls' := [(0, aR 21 i0), (1, aR 39 0)]) (st' := [aI (gI Y.1 11 (Y.2 (i0 + 3)) 1), aR 21 i0]) (cs' := [vp_in (nI 1) 5]) (fun _ => rfl) (al1 (vin rfl)) ?_
  obtain ⟨v3, Y1, hv2, h⟩ := bd_some h
  refine w_cV1 k86 (sn_87 _ _ _ _ hv2) rfl (st := []) rfl ?_ (fun _ _ q => q.elim)
  refine w_if_eq k86 rfl (fun c => ?_) (fun c => ?_)
  · replace h := if_t c h
    refine w_ls [(0, aR 21 i0)] (lq_c rfl lq_n) ?_
    exact J21_0 _ _ h
  · replace h := if_f c h
    refine w_sg k86 2 (pc' := 18) (ls' := [(0, aR 21 i0), (1, aR 39 0)]) (st' := [aR 39 0, aR 21 i0]) (cs' := []) (fun _ => rfl) al0 ?_
    obtain ⟨_, Y17, hv18, h⟩ := bd_some h
    refine w_cV0 k86 (sn_88 _ _ _ hv18) rfl (st := []) rfl ?_ (fun _ _ q => q.elim)
    refine w_ls [(0, aR 21 i0)] (lq_c rfl lq_n) ?_
    exact J21_0 _ _ h
set_option maxRecDepth 20000 in
set_option maxHeartbeats 4000000 in
/-- BallotBus$State.pass -/
theorem sn_85 (i0 : Nat) (a1 : Int32) {Y : Sm} (v : Unit) (Z : Sm) (h : fn_85 i0 a1 Y = some (v, Z)) : Mt 9 0 85 [aR 21 i0, aI a1, aR 39 0] Y (Rt none Z) nX := by
  refine Mt_of [(0, aR 21 i0), (1, aI a1), (2, aR 39 0)] ?_
  generalize ho : (v, Z) = o at h
  have hv9 : v = o.1 := congrArg Prod.fst ho
  have hZ9 : Z = o.2 := congrArg Prod.snd ho
  clear ho
  subst hv9 hZ9
  unfold fn_85 at h
  have L2_0 : ∀ (l0 : Nat) (l1 : Int32) (n : Nat) (l3 : Int32) (Y : Sm), lp (fun s => fn_85_L2 l0 l1 s.1 s.2) n (l3, Y) = some o → Wm 9 0 85 0 2 [(0, aR 21 l0), (1, aI l1), (2, aR 39 0), (3, aI l3)] [] Y (Rt none o.2) nX := by
    intro l0 l1 n
    induction n with
    | zero => intro l3 Y h; cases h
    | succ n ih3 =>
      intro l3 Y h
      obtain ⟨q1, h, hn2⟩ := lp_succ h
      replace h : fn_85_L2 l0 l1 l3 Y = some q1 := h
      unfold fn_85_L2 at h
      refine w_sg k85 2 (pc' := 4) (ls' := [(0, aR 21 l0), (1, aI l1), (2, aR 39 0), (3, aI l3)]) (st' := [aI l1, aI l3]) (cs' := []) (fun _ => rfl) al0 ?_
      refine w_icmp_ge k85 rfl (fun c => ?_) (fun c => ?_)
      · replace h := if_t c h
        obtain rfl := Option.some.inj h
        obtain rfl := lpn_r hn2
        exact w_return k85 ⟨rfl, rfl⟩
      · replace h := if_f c h
        refine w_sg k85 2 (pc' := 9) (ls' := [(0, aR 21 l0), (1, aI l1), (2, aR 39 0), (3, aI l3)]) (st' := [aR 39 0, aR 21 l0]) (cs' := []) (fun _ => rfl) al0 ?_
        obtain ⟨_, Y4, hv5, h⟩ := bd_some h
        refine w_cV0 k85 (sn_86 _ _ _ hv5) rfl (st := []) rfl ?_ (fun _ _ q => q.elim)
        refine w_sg k85 1 (pc' := 15) (ls' := [(0, aR 21 l0), (1, aI l1), (2, aR 39 0), (3, aI (l3 + (nI 1)))]) (st' := []) (cs' := []) (fun _ => rfl) al0 ?_
        refine w_sg k85 1 (pc' := 2) (ls' := [(0, aR 21 l0), (1, aI l1), (2, aR 39 0), (3, aI (l3 + (nI 1)))]) (st' := []) (cs' := []) (fun _ => rfl) al0 ?_
        refine w_ls [(0, aR 21 l0), (1, aI l1), (2, aR 39 0), (3, aI (l3 + (nI 1)))] (lq_c rfl (lq_c rfl (lq_c rfl (lq_c rfl lq_n)))) ?_
        obtain rfl := Option.some.inj h
        exact ih3 _ _ (lpn_l hn2)
  refine w_sg k85 2 (pc' := 2) (ls' := [(0, aR 21 i0), (1, aI a1), (2, aR 39 0), (3, aI (nI 0))]) (st' := []) (cs' := []) (fun _ => rfl) al0 ?_
  refine w_ls [(0, aR 21 i0), (1, aI a1), (2, aR 39 0), (3, aI (nI 0))] (lq_c rfl (lq_c rfl (lq_c rfl (lq_c rfl lq_n)))) ?_
  exact L2_0 _ _ _ _ _ h
set_option maxRecDepth 20000 in
set_option maxHeartbeats 4000000 in
/-- BallotBus.run -/
theorem sn_134 (a1 : Int32) {Y : Sm} (v : (Int32 ⊕ Nat)) (Z : Sm) (h : fn_134 a1 Y = some (v, Z)) : Mt 10 1 134 [aR 0 0, aI a1] Y (Pz (fun v => some (aI v)) v Z) (Ez v Z) := by
  refine Mt_of [(0, aR 0 0), (1, aI a1)] ?_
  generalize ho : (v, Z) = o at h
  have hv9 : v = o.1 := congrArg Prod.fst ho
  have hZ9 : Z = o.2 := congrArg Prod.snd ho
  clear ho
  subst hv9 hZ9
  unfold fn_134 at h
  refine w_sg k134 3 (pc' := 5) (ls' := [(0, aR 0 0), (1, aI a1)]) (st' := [aI (nI 500), aI a1, aR 0 0]) (cs' := []) (fun _ => rfl) al0 ?_
  obtain ⟨o8, Y1, hv2, ⟨_, ho9, h⟩ | ⟨x7, ho9, h⟩⟩ := bx_some h
  · subst ho9
    refine w_cV0 k134 (sn_157 _ _ _ _ hv2) rfl (st := []) rfl ?_ (fun _ _ q => q.elim)
    refine w_sg k134 4 (pc' := 16) (ls' := [(0, aR 0 0), (1, aI a1)]) (st' := [aR 21 0, aR 37 0]) (cs' := []) (fun _ => rfl) al0 ?_
    obtain ⟨_, Y3, hv4, h⟩ := bd_some h
    refine w_cV0 k134 (sn_14 _ _ _ hv4) rfl (st := []) rfl ?_ (fun _ _ q => q.elim)
    refine w_sg k134 4 (pc' := 27) (ls' := [(0, aR 0 0), (1, aI a1), (2, aI (gI Y3.1 21 0 8))]) (st' := []) (cs' := []) (fun _ => rfl) al0 ?_
    refine w_sg k134 5 (pc' := 36) (ls' := [(0, aR 0 0), (1, aI a1), (2, aI (gI Y3.1 21 0 8))]) (st' := [aR 39 0, aI a1, aR 21 0]) (cs' := []) (fun _ => rfl) al0 ?_
    obtain ⟨_, Y5, hv6, h⟩ := bd_some h
    refine w_cV0 k134 (sn_85 _ _ _ _ hv6) rfl (st := []) rfl ?_ (fun _ _ q => q.elim)
    refine w_sg k134 5 (pc' := 48) (ls' := [(0, aR 0 0), (1, aI a1), (2, aI (gI Y3.1 21 0 8))]) (st' := [aI ((gI Y5.1 21 0 8) - (gI Y3.1 21 0 8))]) (cs' := []) (fun _ => rfl) al0 ?_
    obtain rfl := Option.some.inj h
    exact w_ireturn k134 Pz_l
  · subst ho9
    obtain rfl := Option.some.inj h
    exact w_xcallV k134 (sn_157 _ _ _ _ hv2) rfl (st := []) rfl Ez_r
set_option maxRecDepth 20000 in
set_option maxHeartbeats 4000000 in
/-- BallotBus$State.take -/
theorem sn_81 (i0 : Nat) (a1 : Int32) (a2 : Int32) (a3 : Int32) {Y : Sm} (v : Int32) (Z : Sm) (h : fn_81 i0 a1 a2 a3 Y = some (v, Z)) : Mt 5 0 81 [aR 21 i0, aI a1, aI a2, aI a3] Y (Rt (some (aI v)) Z) nX := by
  refine Mt_of [(0, aR 21 i0), (1, aI a1), (2, aI a2), (3, aI a3)] ?_
  generalize ho : (v, Z) = o at h
  have hv9 : v = o.1 := congrArg Prod.fst ho
  have hZ9 : Z = o.2 := congrArg Prod.snd ho
  clear ho
  subst hv9 hZ9
  unfold fn_81 at h
  refine w_sg k81 3 (pc' := 6) (ls' := [(0, aR 21 i0), (1, aI a1), (2, aI a2), (3, aI a3), (4, aI (gI Y.1 21 i0 7))]) (st' := []) (cs' := []) (fun _ => rfl) al0 ?_
  refine w_sg k81 8 (pc' := 19) (ls' := [(0, aR 21 i0), (1, aI a1), (2, aI a2), (3, aI a3), (4, aI (gI Y.1 21 i0 7))]) (st' := [aI (gI Y.1 21 i0 1), aI a3, aI a2, aI a1, aI (gI Y.1 21 i0 7), aR 12 (i0 + 3)]) (cs' := []) (fun _ => rfl) al0 ?_
  obtain ⟨_, Y1, hv2, h⟩ := bd_some h
  refine w_cV0 k81 (sn_36 _ _ _ _ _ _ _ _ hv2) rfl (st := []) rfl ?_ (fun _ _ q => q.elim)
  refine w_sw k81 6 (Z := (sI Y1 21 i0 7 ((gI Y1.1 21 i0 7) + (nI 1)))) (pc' := 32) (ls' := [(0, aR 21 i0), (1, aI a1), (2, aI a2), (3, aI a3), (4, aI (gI Y.1 21 i0 7))]) (st' := []) (cs' := [allw 21 i0]) (fun _ => rfl) rfl (al1 rfl) ?_
  replace h := wr_some h
  generalize (sI Y1 21 i0 7 ((gI Y1.1 21 i0 7) + (nI 1))) = Y3 at h ⊢
  refine w_sg k81 1 (pc' := 34) (ls' := [(0, aR 21 i0), (1, aI a1), (2, aI a2), (3, aI a3), (4, aI (gI Y.1 21 i0 7))]) (st' := [aI (gI Y.1 21 i0 7)]) (cs' := []) (fun _ => rfl) al0 ?_
  obtain rfl := Option.some.inj h
  exact w_ireturn k81 ⟨rfl, rfl⟩
set_option maxRecDepth 20000 in
set_option maxHeartbeats 4000000 in
/-- BallotBus.ask -/
theorem sn_135 (a1 : Int32) (a2 : Int32) (a3 : Int32) {Y : Sm} (v : (Int32 ⊕ Nat)) (Z : Sm) (h : fn_135 a1 a2 a3 Y = some (v, Z)) : Mt 7 3 135 [aR 0 0, aI a1, aI a2, aI a3] Y (Pz (fun v => some (aI v)) v Z) (Ez v Z) := by
  refine Mt_of [(0, aR 0 0), (1, aI a1), (2, aI a2), (3, aI a3)] ?_
  generalize ho : (v, Z) = o at h
  have hv9 : v = o.1 := congrArg Prod.fst ho
  have hZ9 : Z = o.2 := congrArg Prod.snd ho
  clear ho
  subst hv9 hZ9
  unfold fn_135 at h
  refine w_sg k135 2 (pc' := 2) (ls' := [(0, aR 0 0), (1, aI a1), (2, aI a2), (3, aI a3)]) (st' := [aI a1, aR 0 0]) (cs' := []) (fun _ => rfl) al0 ?_
  obtain ⟨o14, Y1, hv2, ⟨_, ho15, h⟩ | ⟨x13, ho15, h⟩⟩ := bx_some h
  · subst ho15
    refine w_cV0 k135 (sn_154 _ _ _ hv2) rfl (st := []) rfl ?_ (fun _ _ q => q.elim)
    refine w_sg k135 2 (pc' := 7) (ls' := [(0, aR 0 0), (1, aI a1), (2, aI a2), (3, aI a3)]) (st' := [aI a2, aR 0 0]) (cs' := []) (fun _ => rfl) al0 ?_
    obtain ⟨o11, Y3, hv4, ⟨_, ho12, h⟩ | ⟨x10, ho12, h⟩⟩ := bx_some h
    · subst ho12
      refine w_cV0 k135 (sn_155 _ _ _ hv4) rfl (st := []) rfl ?_ (fun _ _ q => q.elim)
      refine w_sg k135 2 (pc' := 12) (ls' := [(0, aR 0 0), (1, aI a1), (2, aI a2), (3, aI a3)]) (st' := [aI (nI 1), aI a3]) (cs' := []) (fun _ => rfl) al0 ?_
      refine w_icmp_lt k135 rfl (fun c => ?_) (fun c => ?_)
      · replace h := if_t c h
        obtain rfl := Option.some.inj h
        exact w_throw k135 rfl rfl Ez_r
      · replace h := if_f c h
        refine w_sg k135 2 (pc' := 18) (ls' := [(0, aR 0 0), (1, aI a1), (2, aI a2), (3, aI a3)]) (st' := [aI (nI 20), aI a3]) (cs' := []) (fun _ => rfl) al0 ?_
        refine w_icmp_le k135 rfl (fun c => ?_) (fun c => ?_)
        · replace h := if_t c h
          refine w_sg k135 5 (pc' := 44) (ls' := [(0, aR 0 0), (1, aI a1), (2, aI a2), (3, aI a3)]) (st' := [aI (nI 40), aI (gI Y3.1 12 3 1)]) (cs' := []) (fun _ => rfl) al0 ?_
          refine w_icmp_ge k135 rfl (fun c => ?_) (fun c => ?_)
          · replace h := if_t c h
            obtain rfl := Option.some.inj h
            exact w_throw k135 rfl rfl Ez_r
          · replace h := if_f c h
            refine w_sg k135 4 (pc' := 57) (ls' := [(0, aR 0 0), (1, aI a1), (2, aI a2), (3, aI a3)]) (st' := [aI (nI 9999), aI (gI Y3.1 21 0 7)]) (cs' := []) (fun _ => rfl) al0 ?_
            refine w_icmp_lt k135 rfl (fun c => ?_) (fun c => ?_)
            · replace h := if_t c h
              refine w_sg k135 4 (pc' := 79) (ls' := [(0, aR 0 0), (1, aI a1), (2, aI a2), (3, aI a3)]) (st' := [aR 21 0, aR 37 0]) (cs' := []) (fun _ => rfl) al0 ?_
              obtain ⟨_, Y5, hv6, h⟩ := bd_some h
              refine w_cV0 k135 (sn_14 _ _ _ hv6) rfl (st := []) rfl ?_ (fun _ _ q => q.elim)
              refine w_sg k135 5 (pc' := 89) (ls' := [(0, aR 0 0), (1, aI a1), (2, aI a2), (3, aI a3)]) (st' := [aI a3, aI a2, aI a1, aR 21 0]) (cs' := []) (fun _ => rfl) al0 ?_
              obtain ⟨v9, Y7, hv8, h⟩ := bd_some h
              refine w_cV1 k135 (sn_81 _ _ _ _ _ _ hv8) rfl (st := []) rfl ?_ (fun _ _ q => q.elim)
              obtain rfl := Option.some.inj h
              exact w_ireturn k135 Pz_l
            · replace h := if_f c h
              obtain rfl := Option.some.inj h
              exact w_throw k135 rfl rfl Ez_r
        · replace h := if_f c h
          obtain rfl := Option.some.inj h
          exact w_throw k135 rfl rfl Ez_r
    · subst ho12
      obtain rfl := Option.some.inj h
      exact w_xcallV k135 (sn_155 _ _ _ hv4) rfl (st := []) rfl Ez_r
  · subst ho15
    obtain rfl := Option.some.inj h
    exact w_xcallV k135 (sn_154 _ _ _ hv2) rfl (st := []) rfl Ez_r
set_option maxRecDepth 20000 in
set_option maxHeartbeats 4000000 in
/-- BallotBus$Rows.decode -/
theorem sn_50 (a0 : Int32) (a2 : Int32) {Y : Sm} (v : Int32) (Z : Sm) (h : fn_50 a0 a2 Y = some (v, Z)) : Mt 4 0 50 [aI a0, aR 46 0, aI a2] Y (Rt (some (aI v)) Z) nX := by
  refine Mt_of [(0, aI a0), (1, aR 46 0), (2, aI a2)] ?_
  generalize ho : (v, Z) = o at h
  have hv9 : v = o.1 := congrArg Prod.fst ho
  have hZ9 : Z = o.2 := congrArg Prod.snd ho
  clear ho
  subst hv9 hZ9
  unfold fn_50 at h
  have L15_0 : ∀ (l2 : Int32) (n : Nat) (l3 : Int32) (l4 : Int32) (l5 : Int32) (Y : Sm) (e4 : (Int32 × Sm) ⊕ (Int32 × Sm)), lp (fun s => fn_50_L15 l2 s.1 s.2.1 s.2.2.1 s.2.2.2) n (l3, l4, l5, Y) = some e4 → (∀ s9 : (Int32 × Sm), e4 = .inl s9 → Wm 4 0 50 0 75 [(3, aI s9.1)] [] s9.2 (Rt (some (aI o.1)) o.2) nX) → (∀ r, e4 = .inr r → r = o) → Wm 4 0 50 0 15 [(1, aR 46 0), (2, aI l2), (3, aI l3), (4, aI l4), (5, aI l5)] [] Y (Rt (some (aI o.1)) o.2) nX := by
    intro l2 n
    induction n with
    | zero => intro l3 l4 l5 Y e4 h; cases h
    | succ n ih3 =>
      intro l3 l4 l5 Y e4 h kE5 kR6
      obtain ⟨q1, h, hn2⟩ := lp_succ h
      replace h : fn_50_L15 l2 l3 l4 l5 Y = some q1 := h
      unfold fn_50_L15 at h
      refine w_sg k50 1 (pc' := 17) (ls' := [(1, aR 46 0), (2, aI l2), (3, aI l3), (4, aI l4), (5, aI l5)]) (st' := [aI l5]) (cs' := []) (fun _ => rfl) al0 ?_
      refine w_if_lt k50 rfl (fun c => ?_) (fun c => ?_)
      · replace h := if_t c h
        refine w_ls [(3, aI l3)] (lq_c rfl lq_n) ?_
        obtain rfl := Option.some.inj h
        obtain rfl := lpn_r hn2
        exact kE5 (l3, Y) rfl
      · replace h := if_f c h
        refine w_sg k50 4 (pc' := 26) (ls' := [(1, aR 46 0), (2, aI l2), (3, aI l3), (4, aI l4), (5, aI l5), (6, aI (l3 - l3 / (nI 10) * (nI 10)))]) (st' := []) (cs' := [¬ (nI 10) = 0]) (fun _ => rfl) (al1 (by decide)) ?_
        refine w_sg k50 1 (pc' := 28) (ls' := [(1, aR 46 0), (2, aI l2), (3, aI l3), (4, aI l4), (5, aI l5), (6, aI (l3 - l3 / (nI 10) * (nI 10)))]) (st' := [aI (l3 - l3 / (nI 10) * (nI 10))]) (cs' := []) (fun _ => rfl) al0 ?_
        refine w_if_lt k50 rfl (fun c => ?_) (fun c => ?_)
        · replace h := if_t c h
          refine w_sg k50 1 (pc' := 48) (ls' := [(1, aR 46 0), (2, aI l2), (3, aI l3), (4, aI l4), (5, aI l5), (6, aI (l3 - l3 / (nI 10) * (nI 10)))]) (st' := [aI (nI 0)]) (cs' := []) (fun _ => rfl) al0 ?_
          obtain rfl := Option.some.inj h
          obtain rfl := lpn_r hn2
          obtain rfl := kR6 _ rfl
          exact w_zreturn k50 (Or.inl rfl) ⟨rfl, rfl⟩
        · replace h := if_f c h
          refine w_sg k50 2 (pc' := 34) (ls' := [(1, aR 46 0), (2, aI l2), (3, aI l3), (4, aI l4), (5, aI l5), (6, aI (l3 - l3 / (nI 10) * (nI 10)))]) (st' := [aI l2, aI (l3 - l3 / (nI 10) * (nI 10))]) (cs' := []) (fun _ => rfl) al0 ?_
          refine w_icmp_ge k50 rfl (fun c => ?_) (fun c => ?_)
          · replace h := if_t c h
            refine w_sg k50 1 (pc' := 48) (ls' := [(1, aR 46 0), (2, aI l2), (3, aI l3), (4, aI l4), (5, aI l5), (6, aI (l3 - l3 / (nI 10) * (nI 10)))]) (st' := [aI (nI 0)]) (cs' := []) (fun _ => rfl) al0 ?_
            obtain rfl := Option.some.inj h
            obtain rfl := lpn_r hn2
            obtain rfl := kR6 _ rfl
            exact w_zreturn k50 (Or.inl rfl) ⟨rfl, rfl⟩
          · replace h := if_f c h
            refine w_sg k50 5 (pc' := 44) (ls' := [(1, aR 46 0), (2, aI l2), (3, aI l3), (4, aI l4), (5, aI l5), (6, aI (l3 - l3 / (nI 10) * (nI 10)))]) (st' := [aI (l4 &&& ((nI 1) <<< ((l3 - l3 / (nI 10) * (nI 10)) &&& 31)))]) (cs' := []) (fun _ => rfl) al0 ?_
            refine w_if_eq k50 rfl (fun c => ?_) (fun c => ?_)
            · replace h := if_t c h
              refine w_sg k50 6 (pc' := 58) (ls' := [(1, aR 46 0), (2, aI l2), (3, aI l3), (4, aI (l4 ||| ((nI 1) <<< ((l3 - l3 / (nI 10) * (nI 10)) &&& 31)))), (5, aI l5), (6, aI (l3 - l3 / (nI 10) * (nI 10)))]) (st' := []) (cs' := []) (fun _ => rfl) al0 ?_
              obtain ⟨hc7, h⟩ := ck_some h
              refine w_sw k50 4 (Z := (sI Y 46 0 (ix l5) (l3 - l3 / (nI 10) * (nI 10)))) (pc' := 64) (ls' := [(1, aR 46 0), (2, aI l2), (3, aI l3), (4, aI (l4 ||| ((nI 1) <<< ((l3 - l3 / (nI 10) * (nI 10)) &&& 31)))), (5, aI l5), (6, aI (l3 - l3 / (nI 10) * (nI 10)))]) (st' := []) (cs' := [vp_in l5 5, allw 46 0]) (fun _ => rfl) rfl (al2 (vin hc7) (al1 rfl)) ?_
              replace h := wr_some h
              generalize (sI Y 46 0 (ix l5) (l3 - l3 / (nI 10) * (nI 10))) = Y8 at h ⊢
              refine w_sg k50 4 (pc' := 69) (ls' := [(1, aR 46 0), (2, aI l2), (3, aI (l3 / (nI 10))), (4, aI (l4 ||| ((nI 1) <<< ((l3 - l3 / (nI 10) * (nI 10)) &&& 31)))), (5, aI l5), (6, aI (l3 - l3 / (nI 10) * (nI 10)))]) (st' := []) (cs' := [¬ (nI 10) = 0]) (fun _ => rfl) (al1 (by decide)) ?_
              refine w_sg k50 1 (pc' := 72) (ls' := [(1, aR 46 0), (2, aI l2), (3, aI (l3 / (nI 10))), (4, aI (l4 ||| ((nI 1) <<< ((l3 - l3 / (nI 10) * (nI 10)) &&& 31)))), (5, aI (l5 + (-1 : Int32))), (6, aI (l3 - l3 / (nI 10) * (nI 10)))]) (st' := []) (cs' := []) (fun _ => rfl) al0 ?_
              refine w_sg k50 1 (pc' := 15) (ls' := [(1, aR 46 0), (2, aI l2), (3, aI (l3 / (nI 10))), (4, aI (l4 ||| ((nI 1) <<< ((l3 - l3 / (nI 10) * (nI 10)) &&& 31)))), (5, aI (l5 + (-1 : Int32))), (6, aI (l3 - l3 / (nI 10) * (nI 10)))]) (st' := []) (cs' := []) (fun _ => rfl) al0 ?_
              refine w_ls [(1, aR 46 0), (2, aI l2), (3, aI (l3 / (nI 10))), (4, aI (l4 ||| ((nI 1) <<< ((l3 - l3 / (nI 10) * (nI 10)) &&& 31)))), (5, aI (l5 + (-1 : Int32)))] (lq_c rfl (lq_c rfl (lq_c rfl (lq_c rfl (lq_c rfl lq_n))))) ?_
              obtain rfl := Option.some.inj h
              exact ih3 _ _ _ _ _ (lpn_l hn2) kE5 kR6
            · replace h := if_f c h
              refine w_sg k50 1 (pc' := 48) (ls' := [(1, aR 46 0), (2, aI l2), (3, aI l3), (4, aI l4), (5, aI l5), (6, aI (l3 - l3 / (nI 10) * (nI 10)))]) (st' := [aI (nI 0)]) (cs' := []) (fun _ => rfl) al0 ?_
              obtain rfl := Option.some.inj h
              obtain rfl := lpn_r hn2
              obtain rfl := kR6 _ rfl
              exact w_zreturn k50 (Or.inl rfl) ⟨rfl, rfl⟩
  have J75_0 : ∀ (l3 : Int32) (Y : Sm), fn_50_J75 l3 Y = some o → Wm 4 0 50 0 75 [(3, aI l3)] [] Y (Rt (some (aI o.1)) o.2) nX := by
    intro l3 Y h
    unfold fn_50_J75 at h
    refine w_sg k50 1 (pc' := 76) (ls' := [(3, aI l3)]) (st' := [aI l3]) (cs' := []) (fun _ => rfl) al0 ?_
    refine w_if_ne k50 rfl (fun c => ?_) (fun c => ?_)
    · replace h := if_f c h
      refine w_sg k50 1 (pc' := 84) (ls' := [(3, aI l3)]) (st' := [aI (nI 0)]) (cs' := []) (fun _ => rfl) al0 ?_
      obtain rfl := Option.some.inj h
      exact w_zreturn k50 (Or.inl rfl) ⟨rfl, rfl⟩
    · replace h := if_t c h
      refine w_sg k50 2 (pc' := 84) (ls' := [(3, aI l3)]) (st' := [aI (nI 1)]) (cs' := []) (fun _ => rfl) al0 ?_
      obtain rfl := Option.some.inj h
      exact w_zreturn k50 (Or.inr rfl) ⟨rfl, rfl⟩
  refine w_sg k50 2 (pc' := 2) (ls' := [(0, aI a0), (1, aR 46 0), (2, aI a2), (3, aI a0)]) (st' := []) (cs' := []) (fun _ => rfl) al0 ?_
  refine w_sg k50 2 (pc' := 5) (ls' := [(0, aI a0), (1, aR 46 0), (2, aI a2), (3, aI a0), (4, aI (nI 0))]) (st' := []) (cs' := []) (fun _ => rfl) al0 ?_
  refine w_sg k50 7 (pc' := 15) (ls' := [(0, aI a0), (1, aR 46 0), (2, aI a2), (3, aI a0), (4, aI (nI 0)), (5, aI ((if (nI 5) < a2 then (nI 5) else a2) - (nI 1)))]) (st' := []) (cs' := []) (fun _ => rfl) al0 ?_
  obtain ⟨e11, hl9, hx10⟩ := exd_some h
  refine w_ls [(1, aR 46 0), (2, aI a2), (3, aI a0), (4, aI (nI 0)), (5, aI ((if (nI 5) < a2 then (nI 5) else a2) - (nI 1)))] (lq_c rfl (lq_c rfl (lq_c rfl (lq_c rfl (lq_c rfl lq_n))))) ?_
  refine L15_0 _ _ _ _ _ _ e11 hl9 (fun s9 hs9 => ?_) (fun r9 hr9 => ?_)
  · subst hs9
    replace h : fn_50_J75 s9.1 s9.2 = some o := hx10
    refine w_ls [(3, aI s9.1)] (lq_c rfl lq_n) ?_
    exact J75_0 _ _ h
  · subst hr9
    exact hx10
set_option maxRecDepth 20000 in
set_option maxHeartbeats 4000000 in
/-- BallotBus$Rows.copy -/
theorem sn_44_46_27 (i1 : Nat) {Y : Sm} (v : Unit) (Z : Sm) (h : fn_44_46_27 i1 Y = some (v, Z)) : Mt 4 0 44 [aR 46 0, aR 27 i1] Y (Rt none Z) nX := by
  refine Mt_of [(0, aR 46 0), (1, aR 27 i1)] ?_
  generalize ho : (v, Z) = o at h
  have hv9 : v = o.1 := congrArg Prod.fst ho
  have hZ9 : Z = o.2 := congrArg Prod.snd ho
  clear ho
  subst hv9 hZ9
  unfold fn_44_46_27 at h
  refine w_sg k44 8 (pc' := 8) (ls' := [(0, aR 46 0), (1, aR 27 i1)]) (st' := [aI (nI 5), aI (nI 5), aI (nI 0), aR 27 i1, aI (nI 0), aR 46 0]) (cs' := []) (fun _ => rfl) al0 ?_
  refine w_sw k44 2 (Z := (sC Y 46 0 0 27 i1 0 5)) (pc' := 14) (ls' := [(0, aR 46 0), (1, aR 27 i1)]) (st' := []) (cs' := [¬ (nI 0) < 0, ¬ (nI 0) < 0, ¬ (nI 5) < 0, 0 + 5 ≤ 5, 0 + 5 ≤ 5, allw 27 i1]) (fun _ => rfl) rfl (al2 (by decide) (al2 (by decide) (al2 (by decide) (al2 (by decide) (al2 (by decide) (al1 rfl)))))) ?_
  replace h := wr_some h
  generalize (sC Y 46 0 0 27 i1 0 5) = Y1 at h ⊢
  obtain rfl := Option.some.inj h
  exact w_return k44 ⟨rfl, rfl⟩
set_option maxRecDepth 20000 in
set_option maxHeartbeats 4000000 in
/-- BallotBus$State.takeBallot -/
theorem sn_82 (i0 : Nat) {Y : Sm} (v : Unit) (Z : Sm) (h : fn_82 i0 Y = some (v, Z)) : Mt 5 0 82 [aR 21 i0, aR 46 0] Y (Rt none Z) nX := by
  refine Mt_of [(0, aR 21 i0), (1, aR 46 0)] ?_
  generalize ho : (v, Z) = o at h
  have hv9 : v = o.1 := congrArg Prod.fst ho
  have hZ9 : Z = o.2 := congrArg Prod.snd ho
  clear ho
  subst hv9 hZ9
  unfold fn_82 at h
  obtain ⟨hc1, h⟩ := ck_some h
  refine w_sg k82 6 (pc' := 10) (ls' := [(0, aR 21 i0), (1, aR 46 0)]) (st' := [aR 27 (8 * i0 + ix (gI Y.1 21 i0 3)), aR 46 0]) (cs' := [vp_in (gI Y.1 21 i0 3) 8]) (fun _ => rfl) (al1 (vin hc1)) ?_
  obtain ⟨_, Y2, hv3, h⟩ := bd_some h
  refine w_cS0 k82 (sn_44_46_27 _ _ _ hv3) rfl (st := []) rfl ?_ (fun _ _ q => q.elim)
  refine w_sw k82 3 (Z := (sI Y2 21 i0 4 (nI 1))) (pc' := 18) (ls' := [(0, aR 21 i0), (1, aR 46 0)]) (st' := []) (cs' := [allw 21 i0, (nI 1) = 0 ∨ (nI 1) = 1]) (fun _ => rfl) rfl (al2 rfl (al1 (Or.inr rfl))) ?_
  replace h := wr_some h
  generalize (sI Y2 21 i0 4 (nI 1)) = Y4 at h ⊢
  obtain ⟨hc5, h⟩ := ck_some h
  refine w_sw k82 7 (Z := (sI Y4 31 i0 (ix (gI Y4.1 21 i0 3)) (nI 0))) (pc' := 31) (ls' := [(0, aR 21 i0), (1, aR 46 0)]) (st' := []) (cs' := [vp_in (gI Y4.1 21 i0 3) 8, allw 31 i0]) (fun _ => rfl) rfl (al2 (vin hc5) (al1 rfl)) ?_
  replace h := wr_some h
  generalize (sI Y4 31 i0 (ix (gI Y4.1 21 i0 3)) (nI 0)) = Y6 at h ⊢
  obtain rfl := Option.some.inj h
  exact w_return k82 ⟨rfl, rfl⟩
set_option maxRecDepth 20000 in
set_option maxHeartbeats 4000000 in
/-- BallotBus.cast -/
theorem sn_137 (a1 : Int32) {Y : Sm} (v : (Int32 ⊕ Nat)) (Z : Sm) (h : fn_137 a1 Y = some (v, Z)) : Mt 7 1 137 [aR 0 0, aI a1] Y (Pz (fun v => some (aI v)) v Z) (Ez v Z) := by
  refine Mt_of [(0, aR 0 0), (1, aI a1)] ?_
  generalize ho : (v, Z) = o at h
  have hv9 : v = o.1 := congrArg Prod.fst ho
  have hZ9 : Z = o.2 := congrArg Prod.snd ho
  clear ho
  subst hv9 hZ9
  unfold fn_137 at h
  refine w_sg k137 6 (pc' := 12) (ls' := [(0, aR 0 0), (1, aI a1)]) (st' := [aI (gI Y.1 5 (Y.2 0) 0), aR 46 0, aI a1]) (cs' := []) (fun _ => rfl) al0 ?_
  obtain ⟨v3, Y1, hv2, h⟩ := bd_some h
  refine w_cS1 k137 (sn_50 _ _ _ _ hv2) rfl (st := []) rfl ?_ (fun _ _ q => q.elim)
  refine w_if_ne k137 rfl (fun c => ?_) (fun c => ?_)
  · replace h := if_f c h
    refine w_sg k137 4 (pc' := 37) (ls' := [(0, aR 0 0), (1, aI a1)]) (st' := [aR 21 0, aR 37 0]) (cs' := []) (fun _ => rfl) al0 ?_
    obtain ⟨_, Y4, hv5, h⟩ := bd_some h
    refine w_cV0 k137 (sn_14 _ _ _ hv5) rfl (st := []) rfl ?_ (fun _ _ q => q.elim)
    refine w_sg k137 4 (pc' := 48) (ls' := [(0, aR 0 0), (1, aI a1)]) (st' := [aR 46 0, aR 21 0]) (cs' := []) (fun _ => rfl) al0 ?_
    obtain ⟨_, Y6, hv7, h⟩ := bd_some h
    refine w_cV0 k137 (sn_82 _ _ _ hv7) rfl (st := []) rfl ?_ (fun _ _ q => q.elim)
    refine w_sg k137 3 (pc' := 58) (ls' := [(0, aR 0 0), (1, aI a1)]) (st' := [aI (gI Y6.1 21 0 3)]) (cs' := []) (fun _ => rfl) al0 ?_
    obtain rfl := Option.some.inj h
    exact w_ireturn k137 Pz_l
  · replace h := if_t c h
    obtain rfl := Option.some.inj h
    exact w_throw k137 rfl rfl Ez_r
set_option maxRecDepth 20000 in
set_option maxHeartbeats 4000000 in
/-- BallotBus$Accounts.settleFromCredits -/
theorem sn_6 (i0 : Nat) (a1 : Int32) {Y : Sm} (v : Int32) (Z : Sm) (h : fn_6 i0 a1 Y = some (v, Z)) : Mt 4 0 6 [aR 28 i0, aI a1] Y (Rt (some (aI v)) Z) nX := by
  refine Mt_of [(0, aR 28 i0), (1, aI a1)] ?_
  generalize ho : (v, Z) = o at h
  have hv9 : v = o.1 := congrArg Prod.fst ho
  have hZ9 : Z = o.2 := congrArg Prod.snd ho
  clear ho
  subst hv9 hZ9
  unfold fn_6 at h
  obtain ⟨hc1, h⟩ := ck_some h
  refine w_sg k6 8 (pc' := 12) (ls' := [(0, aR 28 i0), (1, aI a1)]) (st' := [aI (gI Y.1 30 i0 (ix a1)), aI (gI Y.1 29 i0 (ix a1))]) (cs' := [vp_in a1 8, vp_in a1 8]) (fun _ => rfl) (al2 (vin hc1) (al1 (vin hc1))) ?_
  refine w_sg k6 2 (pc' := 16) (ls' := [(0, aR 28 i0), (1, aI a1), (2, aI (if (gI Y.1 30 i0 (ix a1)) < (gI Y.1 29 i0 (ix a1)) then (gI Y.1 30 i0 (ix a1)) else (gI Y.1 29 i0 (ix a1))))]) (st' := []) (cs' := []) (fun _ => rfl) al0 ?_
  refine w_sw k6 8 (Z := (sI Y 29 i0 (ix a1) ((gI Y.1 29 i0 (ix a1)) - (if (gI Y.1 30 i0 (ix a1)) < (gI Y.1 29 i0 (ix a1)) then (gI Y.1 30 i0 (ix a1)) else (gI Y.1 29 i0 (ix a1)))))) (pc' := 26) (ls' := [(0, aR 28 i0), (1, aI a1), (2, aI (if (gI Y.1 30 i0 (ix a1)) < (gI Y.1 29 i0 (ix a1)) then (gI Y.1 30 i0 (ix a1)) else (gI Y.1 29 i0 (ix a1))))]) (st' := []) (cs' := [vp_in a1 8, vp_in a1 8, allw 29 i0]) (fun _ => rfl) rfl (al2 (vin hc1) (al2 (vin hc1) (al1 rfl))) ?_
  replace h := wr_some h
  generalize (sI Y 29 i0 (ix a1) ((gI Y.1 29 i0 (ix a1)) - (if (gI Y.1 30 i0 (ix a1)) < (gI Y.1 29 i0 (ix a1)) then (gI Y.1 30 i0 (ix a1)) else (gI Y.1 29 i0 (ix a1))))) = Y2 at h ⊢
  refine w_sw k6 8 (Z := (sI Y2 30 i0 (ix a1) ((gI Y2.1 30 i0 (ix a1)) - (if (gI Y.1 30 i0 (ix a1)) < (gI Y.1 29 i0 (ix a1)) then (gI Y.1 30 i0 (ix a1)) else (gI Y.1 29 i0 (ix a1)))))) (pc' := 36) (ls' := [(0, aR 28 i0), (1, aI a1), (2, aI (if (gI Y.1 30 i0 (ix a1)) < (gI Y.1 29 i0 (ix a1)) then (gI Y.1 30 i0 (ix a1)) else (gI Y.1 29 i0 (ix a1))))]) (st' := []) (cs' := [vp_in a1 8, vp_in a1 8, allw 30 i0]) (fun _ => rfl) rfl (al2 (vin hc1) (al2 (vin hc1) (al1 rfl))) ?_
  replace h := wr_some h
  generalize (sI Y2 30 i0 (ix a1) ((gI Y2.1 30 i0 (ix a1)) - (if (gI Y.1 30 i0 (ix a1)) < (gI Y.1 29 i0 (ix a1)) then (gI Y.1 30 i0 (ix a1)) else (gI Y.1 29 i0 (ix a1))))) = Y3 at h ⊢
  refine w_sg k6 1 (pc' := 37) (ls' := [(0, aR 28 i0), (1, aI a1), (2, aI (if (gI Y.1 30 i0 (ix a1)) < (gI Y.1 29 i0 (ix a1)) then (gI Y.1 30 i0 (ix a1)) else (gI Y.1 29 i0 (ix a1))))]) (st' := [aI (if (gI Y.1 30 i0 (ix a1)) < (gI Y.1 29 i0 (ix a1)) then (gI Y.1 30 i0 (ix a1)) else (gI Y.1 29 i0 (ix a1)))]) (cs' := []) (fun _ => rfl) al0 ?_
  obtain rfl := Option.some.inj h
  exact w_ireturn k6 ⟨rfl, rfl⟩
set_option maxRecDepth 20000 in
set_option maxHeartbeats 4000000 in
/-- BallotBus.payBack -/
theorem sn_139 (a1 : Int32) {Y : Sm} (v : (Int32 ⊕ Nat)) (Z : Sm) (h : fn_139 a1 Y = some (v, Z)) : Mt 7 1 139 [aR 0 0, aI a1] Y (Pz (fun v => some (aI v)) v Z) (Ez v Z) := by
  refine Mt_of [(0, aR 0 0), (1, aI a1)] ?_
  generalize ho : (v, Z) = o at h
  have hv9 : v = o.1 := congrArg Prod.fst ho
  have hZ9 : Z = o.2 := congrArg Prod.snd ho
  clear ho
  subst hv9 hZ9
  unfold fn_139 at h
  refine w_sg k139 2 (pc' := 2) (ls' := [(0, aR 0 0), (1, aI a1)]) (st' := [aI a1, aR 0 0]) (cs' := []) (fun _ => rfl) al0 ?_
  obtain ⟨o9, Y1, hv2, ⟨_, ho10, h⟩ | ⟨x8, ho10, h⟩⟩ := bx_some h
  · subst ho10
    refine w_cV0 k139 (sn_154 _ _ _ hv2) rfl (st := []) rfl ?_ (fun _ _ q => q.elim)
    refine w_sg k139 4 (pc' := 13) (ls' := [(0, aR 0 0), (1, aI a1)]) (st' := [aR 21 0, aR 37 0]) (cs' := []) (fun _ => rfl) al0 ?_
    obtain ⟨_, Y3, hv4, h⟩ := bd_some h
    refine w_cV0 k139 (sn_14 _ _ _ hv4) rfl (st := []) rfl ?_ (fun _ _ q => q.elim)
    refine w_sg k139 4 (pc' := 24) (ls' := [(0, aR 0 0), (1, aI a1)]) (st' := [aI a1, aR 28 0]) (cs' := []) (fun _ => rfl) al0 ?_
    obtain ⟨v7, Y5, hv6, h⟩ := bd_some h
    refine w_cV1 k139 (sn_6 _ _ _ _ hv6) rfl (st := []) rfl ?_ (fun _ _ q => q.elim)
    obtain rfl := Option.some.inj h
    exact w_ireturn k139 Pz_l
  · subst ho10
    obtain rfl := Option.some.inj h
    exact w_xcallV k139 (sn_154 _ _ _ hv2) rfl (st := []) rfl Ez_r
set_option maxRecDepth 20000 in
set_option maxHeartbeats 4000000 in
/-- BallotBus.setTally -/
theorem sn_140 (a1 : Int32) {Y : Sm} (v : (Int32 ⊕ Nat)) (Z : Sm) (h : fn_140 a1 Y = some (v, Z)) : Mt 7 1 140 [aR 0 0, aI a1] Y (Pz (fun v => some (aI v)) v Z) (Ez v Z) := by
  refine Mt_of [(0, aR 0 0), (1, aI a1)] ?_
  generalize ho : (v, Z) = o at h
  have hv9 : v = o.1 := congrArg Prod.fst ho
  have hZ9 : Z = o.2 := congrArg Prod.snd ho
  clear ho
  subst hv9 hZ9
  unfold fn_140 at h
  refine w_sg k140 2 (pc' := 2) (ls' := [(0, aR 0 0), (1, aI a1)]) (st' := [aI a1, aR 0 0]) (cs' := []) (fun _ => rfl) al0 ?_
  obtain ⟨o7, Y1, hv2, ⟨_, ho8, h⟩ | ⟨x6, ho8, h⟩⟩ := bx_some h
  · subst ho8
    refine w_cV0 k140 (sn_156 _ _ _ hv2) rfl (st := []) rfl ?_ (fun _ _ q => q.elim)
    refine w_sg k140 4 (pc' := 13) (ls' := [(0, aR 0 0), (1, aI a1)]) (st' := [aR 21 0, aR 37 0]) (cs' := []) (fun _ => rfl) al0 ?_
    obtain ⟨_, Y3, hv4, h⟩ := bd_some h
    refine w_cV0 k140 (sn_14 _ _ _ hv4) rfl (st := []) rfl ?_ (fun _ _ q => q.elim)
    refine w_sg k140 4 (pc' := 24) (ls' := [(0, aR 0 0), (1, aI a1), (2, aI (gI Y3.1 21 0 2))]) (st' := []) (cs' := []) (fun _ => rfl) al0 ?_
    refine w_sw k140 4 (Z := (sI Y3 21 0 2 a1)) (pc' := 32) (ls' := [(0, aR 0 0), (1, aI a1), (2, aI (gI Y3.1 21 0 2))]) (st' := []) (cs' := [allw 21 0]) (fun _ => rfl) rfl (al1 rfl) ?_
    replace h := wr_some h
    generalize (sI Y3 21 0 2 a1) = Y5 at h ⊢
    refine w_sg k140 1 (pc' := 33) (ls' := [(0, aR 0 0), (1, aI a1), (2, aI (gI Y3.1 21 0 2))]) (st' := [aI (gI Y3.1 21 0 2)]) (cs' := []) (fun _ => rfl) al0 ?_
    obtain rfl := Option.some.inj h
    exact w_ireturn k140 Pz_l
  · subst ho8
    obtain rfl := Option.some.inj h
    exact w_xcallV k140 (sn_156 _ _ _ hv2) rfl (st := []) rfl Ez_r
set_option maxRecDepth 20000 in
set_option maxHeartbeats 4000000 in
/-- BallotBus.setManner -/
theorem sn_141 (a1 : Int32) (a2 : Int32) {Y : Sm} (v : (Int32 ⊕ Nat)) (Z : Sm) (h : fn_141 a1 a2 Y = some (v, Z)) : Mt 7 2 141 [aR 0 0, aI a1, aI a2] Y (Pz (fun v => some (aI v)) v Z) (Ez v Z) := by
  refine Mt_of [(0, aR 0 0), (1, aI a1), (2, aI a2)] ?_
  generalize ho : (v, Z) = o at h
  have hv9 : v = o.1 := congrArg Prod.fst ho
  have hZ9 : Z = o.2 := congrArg Prod.snd ho
  clear ho
  subst hv9 hZ9
  unfold fn_141 at h
  refine w_sg k141 2 (pc' := 2) (ls' := [(0, aR 0 0), (1, aI a1), (2, aI a2)]) (st' := [aI a1, aR 0 0]) (cs' := []) (fun _ => rfl) al0 ?_
  obtain ⟨o8, Y1, hv2, ⟨_, ho9, h⟩ | ⟨x7, ho9, h⟩⟩ := bx_some h
  · subst ho9
    refine w_cV0 k141 (sn_155 _ _ _ hv2) rfl (st := []) rfl ?_ (fun _ _ q => q.elim)
    refine w_sg k141 1 (pc' := 6) (ls' := [(0, aR 0 0), (1, aI a1), (2, aI a2)]) (st' := [aI a2]) (cs' := []) (fun _ => rfl) al0 ?_
    refine w_if_lt k141 rfl (fun c => ?_) (fun c => ?_)
    · replace h := if_t c h
      obtain rfl := Option.some.inj h
      exact w_throw k141 rfl rfl Ez_r
    · replace h := if_f c h
      refine w_sg k141 2 (pc' := 11) (ls' := [(0, aR 0 0), (1, aI a1), (2, aI a2)]) (st' := [aI (nI 3), aI a2]) (cs' := []) (fun _ => rfl) al0 ?_
      refine w_icmp_le k141 rfl (fun c => ?_) (fun c => ?_)
      · replace h := if_t c h
        refine w_sg k141 4 (pc' := 33) (ls' := [(0, aR 0 0), (1, aI a1), (2, aI a2)]) (st' := [aR 21 0, aR 37 0]) (cs' := []) (fun _ => rfl) al0 ?_
        obtain ⟨_, Y3, hv4, h⟩ := bd_some h
        refine w_cV0 k141 (sn_14 _ _ _ hv4) rfl (st := []) rfl ?_ (fun _ _ q => q.elim)
        obtain ⟨hc5, h⟩ := ck_some h
        refine w_sg k141 6 (pc' := 46) (ls' := [(0, aR 0 0), (1, aI a1), (2, aI a2), (3, aI (gI Y3.1 23 0 (ix a1)))]) (st' := []) (cs' := [vp_in a1 5]) (fun _ => rfl) (al1 (vin hc5)) ?_
        refine w_sw k141 6 (Z := (sI Y3 23 0 (ix a1) a2)) (pc' := 56) (ls' := [(0, aR 0 0), (1, aI a1), (2, aI a2), (3, aI (gI Y3.1 23 0 (ix a1)))]) (st' := []) (cs' := [vp_in a1 5, allw 23 0]) (fun _ => rfl) rfl (al2 (vin hc5) (al1 rfl)) ?_
        replace h := wr_some h
        generalize (sI Y3 23 0 (ix a1) a2) = Y6 at h ⊢
        refine w_sg k141 1 (pc' := 57) (ls' := [(0, aR 0 0), (1, aI a1), (2, aI a2), (3, aI (gI Y3.1 23 0 (ix a1)))]) (st' := [aI (gI Y3.1 23 0 (ix a1))]) (cs' := []) (fun _ => rfl) al0 ?_
        obtain rfl := Option.some.inj h
        exact w_ireturn k141 Pz_l
      · replace h := if_f c h
        obtain rfl := Option.some.inj h
        exact w_throw k141 rfl rfl Ez_r
  · subst ho9
    obtain rfl := Option.some.inj h
    exact w_xcallV k141 (sn_155 _ _ _ hv2) rfl (st := []) rfl Ez_r
set_option maxRecDepth 20000 in
set_option maxHeartbeats 4000000 in
/-- BallotBus$History.pop -/
theorem sn_15 (i1 : Nat) {Y : Sm} (v : Unit) (Z : Sm) (h : fn_15 i1 Y = some (v, Z)) : Mt 6 0 15 [aR 37 0, aR 21 i1] Y (Rt none Z) nX := by
  refine Mt_of [(0, aR 37 0), (1, aR 21 i1)] ?_
  generalize ho : (v, Z) = o at h
  have hv9 : v = o.1 := congrArg Prod.fst ho
  have hZ9 : Z = o.2 := congrArg Prod.snd ho
  clear ho
  subst hv9 hZ9
  unfold fn_15 at h
  refine w_sg k15 2 (pc' := 4) (ls' := [(0, aR 37 0), (1, aR 21 i1)]) (st' := [aI (gI Y.1 37 0 2)]) (cs' := []) (fun _ => rfl) al0 ?_
  refine w_if_le k15 rfl (fun c => ?_) (fun c => ?_)
  · replace h := if_t c h
    obtain rfl := Option.some.inj h
    exact w_return k15 ⟨rfl, rfl⟩
  · replace h := if_f c h
    obtain ⟨hc1, h⟩ := ck_some h
    refine w_sg k15 6 (pc' := 17) (ls' := [(0, aR 37 0), (1, aR 21 i1)]) (st' := [aR 21 ((ix (gI Y.1 37 0 1)) + 3), aR 21 i1]) (cs' := [vp_in (gI Y.1 37 0 1) 8]) (fun _ => rfl) (al1 (vin hc1)) ?_
    obtain ⟨_, Y2, hv3, h⟩ := bd_some h
    refine w_cV0 k15 (sn_72 _ _ _ _ hv3) rfl (st := []) rfl ?_ (fun _ _ q => q.elim)
    refine w_sg k15 3 (pc' := 25) (ls' := [(0, aR 37 0), (1, aR 21 i1)]) (st' := [aI (gI Y2.1 37 0 1), aR 37 0]) (cs' := []) (fun _ => rfl) al0 ?_
    refine w_if_le k15 rfl (fun c => ?_) (fun c => ?_)
    · replace h := if_t c h
      refine w_sw k15 2 (Z := (sI Y2 37 0 1 (nI 7))) (pc' := 42) (ls' := [(0, aR 37 0), (1, aR 21 i1)]) (st' := []) (cs' := [allw 37 0]) (fun _ => rfl) rfl (al1 rfl) ?_
      replace h := wr_some h
      generalize (sI Y2 37 0 1 (nI 7)) = Y4 at h ⊢
      refine w_sw k15 6 (Z := (sI Y4 37 0 2 ((gI Y4.1 37 0 2) - (nI 1)))) (pc' := 52) (ls' := [(0, aR 37 0), (1, aR 21 i1)]) (st' := []) (cs' := [allw 37 0]) (fun _ => rfl) rfl (al1 rfl) ?_
      replace h := wr_some h
      generalize (sI Y4 37 0 2 ((gI Y4.1 37 0 2) - (nI 1))) = Y5 at h ⊢
      obtain rfl := Option.some.inj h
      exact w_return k15 ⟨rfl, rfl⟩
    · replace h := if_f c h
      refine w_sw k15 6 (Z := (sI Y2 37 0 1 ((gI Y2.1 37 0 1) - (nI 1)))) (pc' := 42) (ls' := [(0, aR 37 0), (1, aR 21 i1)]) (st' := []) (cs' := [allw 37 0]) (fun _ => rfl) rfl (al1 rfl) ?_
      replace h := wr_some h
      generalize (sI Y2 37 0 1 ((gI Y2.1 37 0 1) - (nI 1))) = Y6 at h ⊢
      refine w_sw k15 6 (Z := (sI Y6 37 0 2 ((gI Y6.1 37 0 2) - (nI 1)))) (pc' := 52) (ls' := [(0, aR 37 0), (1, aR 21 i1)]) (st' := []) (cs' := [allw 37 0]) (fun _ => rfl) rfl (al1 rfl) ?_
      replace h := wr_some h
      generalize (sI Y6 37 0 2 ((gI Y6.1 37 0 2) - (nI 1))) = Y7 at h ⊢
      obtain rfl := Option.some.inj h
      exact w_return k15 ⟨rfl, rfl⟩
set_option maxRecDepth 20000 in
set_option maxHeartbeats 4000000 in
/-- BallotBus.undo -/
theorem sn_142 {Y : Sm} (v : (Int32 ⊕ Nat)) (Z : Sm) (h : fn_142 Y = some (v, Z)) : Mt 7 1 142 [aR 0 0] Y (Pz (fun v => some (aI v)) v Z) (Ez v Z) := by
  refine Mt_of [(0, aR 0 0)] ?_
  generalize ho : (v, Z) = o at h
  have hv9 : v = o.1 := congrArg Prod.fst ho
  have hZ9 : Z = o.2 := congrArg Prod.snd ho
  clear ho
  subst hv9 hZ9
  unfold fn_142 at h
  refine w_sg k142 3 (pc' := 7) (ls' := [(0, aR 0 0)]) (st' := [aI (gI Y.1 37 0 2)]) (cs' := []) (fun _ => rfl) al0 ?_
  refine w_if_ne k142 rfl (fun c => ?_) (fun c => ?_)
  · replace h := if_f c h
    refine w_sg k142 4 (pc' := 29) (ls' := [(0, aR 0 0)]) (st' := [aR 21 0, aR 37 0]) (cs' := []) (fun _ => rfl) al0 ?_
    obtain ⟨_, Y1, hv2, h⟩ := bd_some h
    refine w_cV0 k142 (sn_15 _ _ _ hv2) rfl (st := []) rfl ?_ (fun _ _ q => q.elim)
    refine w_sg k142 3 (pc' := 39) (ls' := [(0, aR 0 0)]) (st' := [aI (gI Y1.1 37 0 2)]) (cs' := []) (fun _ => rfl) al0 ?_
    obtain rfl := Option.some.inj h
    exact w_ireturn k142 Pz_l
  · replace h := if_t c h
    obtain rfl := Option.some.inj h
    exact w_throw k142 rfl rfl Ez_r
set_option maxRecDepth 20000 in
set_option maxHeartbeats 4000000 in
/-- BallotBus$State.answersOf -/
theorem sn_75 (i0 : Nat) (a1 : Int32) {Y : Sm} (v : Int32) (Z : Sm) (h : fn_75 i0 a1 Y = some (v, Z)) : Mt 4 0 75 [aR 21 i0, aI a1] Y (Rt (some (aI v)) Z) nX := by
  refine Mt_of [(0, aR 21 i0), (1, aI a1)] ?_
  generalize ho : (v, Z) = o at h
  have hv9 : v = o.1 := congrArg Prod.fst ho
  have hZ9 : Z = o.2 := congrArg Prod.snd ho
  clear ho
  subst hv9 hZ9
  unfold fn_75 at h
  refine w_sg k75 2 (pc' := 2) (ls' := [(0, aR 21 i0), (1, aI a1)]) (st' := [aI (-1 : Int32), aI a1]) (cs' := []) (fun _ => rfl) al0 ?_
  refine w_icmp_ne k75 rfl (fun c => ?_) (fun c => ?_)
  · replace h := if_f c h
    obtain ⟨hc1, h⟩ := ck_some h
    refine w_sg k75 5 (pc' := 21) (ls' := [(0, aR 21 i0), (1, aI a1)]) (st' := [aI (gI Y.1 32 i0 (ix a1))]) (cs' := [vp_in a1 8]) (fun _ => rfl) (al1 (vin hc1)) ?_
    obtain rfl := Option.some.inj h
    exact w_ireturn k75 ⟨rfl, rfl⟩
  · replace h := if_t c h
    refine w_sg k75 3 (pc' := 21) (ls' := [(0, aR 21 i0), (1, aI a1)]) (st' := [aI (gI Y.1 21 i0 8)]) (cs' := []) (fun _ => rfl) al0 ?_
    obtain rfl := Option.some.inj h
    exact w_ireturn k75 ⟨rfl, rfl⟩
set_option maxRecDepth 20000 in
set_option maxHeartbeats 4000000 in
/-- BallotBus.answersIn -/
theorem sn_144 (a1 : Int32) (a2 : Int32) {Y : Sm} (v : (Int32 ⊕ Nat)) (Z : Sm) (h : fn_144 a1 a2 Y = some (v, Z)) : Mt 10 2 144 [aR 0 0, aI a1, aI a2] Y (Pz (fun v => some (aI v)) v Z) (Ez v Z) := by
  refine Mt_of [(0, aR 0 0), (1, aI a1), (2, aI a2)] ?_
  generalize ho : (v, Z) = o at h
  have hv9 : v = o.1 := congrArg Prod.fst ho
  have hZ9 : Z = o.2 := congrArg Prod.snd ho
  clear ho
  subst hv9 hZ9
  unfold fn_144 at h
  have J10_0 : ∀ (l1 : Int32) (l2 : Int32) (Y : Sm), fn_144_J10 l1 l2 Y = some o → Wm 10 2 144 0 10 [(0, aR 0 0), (1, aI l1), (2, aI l2)] [] Y (Pz (fun v => some (aI v)) o.1 o.2) (Ez o.1 o.2) := by
    intro l1 l2 Y h
    unfold fn_144_J10 at h
    refine w_sg k144 3 (pc' := 15) (ls' := [(0, aR 0 0), (1, aI l1), (2, aI l2)]) (st' := [aI (nI 500), aI l1, aR 0 0]) (cs' := []) (fun _ => rfl) al0 ?_
    obtain ⟨o14, Y1, hv2, ⟨_, ho15, h⟩ | ⟨x13, ho15, h⟩⟩ := bx_some h
    · subst ho15
      refine w_cV0 k144 (sn_157 _ _ _ _ hv2) rfl (st := []) rfl ?_ (fun _ _ q => q.elim)
      refine w_sg k144 4 (pc' := 26) (ls' := [(0, aR 0 0), (1, aI l1), (2, aI l2)]) (st' := [aR 21 0, aR 21 1]) (cs' := []) (fun _ => rfl) al0 ?_
      obtain ⟨_, Y3, hv4, h⟩ := bd_some h
      refine w_cV0 k144 (sn_72 _ _ _ _ hv4) rfl (st := []) rfl ?_ (fun _ _ q => q.elim)
      refine w_sg k144 5 (pc' := 38) (ls' := [(0, aR 0 0), (1, aI l1), (2, aI l2)]) (st' := [aR 39 0, aI l1, aR 21 1]) (cs' := []) (fun _ => rfl) al0 ?_
      obtain ⟨_, Y5, hv6, h⟩ := bd_some h
      refine w_cV0 k144 (sn_85 _ _ _ _ hv6) rfl (st := []) rfl ?_ (fun _ _ q => q.elim)
      refine w_sg k144 3 (pc' := 46) (ls' := [(0, aR 0 0), (1, aI l1), (2, aI l2)]) (st' := [aI l2, aR 21 1]) (cs' := []) (fun _ => rfl) al0 ?_
      obtain ⟨v9, Y7, hv8, h⟩ := bd_some h
      refine w_cV1 k144 (sn_75 _ _ _ _ hv8) rfl (st := []) rfl ?_ (fun _ _ q => q.elim)
      refine w_sg k144 3 (pc' := 54) (ls' := [(0, aR 0 0), (1, aI l1), (2, aI l2)]) (st' := [aI l2, aR 21 0, aI v9]) (cs' := []) (fun _ => rfl) al0 ?_
      obtain ⟨v12, Y10, hv11, h⟩ := bd_some h
      refine w_cV1 k144 (sn_75 _ _ _ _ hv11) rfl (st := [aI v9]) rfl ?_ (fun _ _ q => q.elim)
      refine w_sg k144 1 (pc' := 58) (ls' := [(0, aR 0 0), (1, aI l1), (2, aI l2)]) (st' := [aI (v9 - v12)]) (cs' := []) (fun _ => rfl) al0 ?_
      obtain rfl := Option.some.inj h
      exact w_ireturn k144 Pz_l
    · subst ho15
      obtain rfl := Option.some.inj h
      exact w_xcallV k144 (sn_157 _ _ _ _ hv2) rfl (st := []) rfl Ez_r
  have J10_1 : ∀ (l1 : Int32) (l2 : Int32) (Y : Sm), fn_144_J10_1 l1 l2 Y = some o → Wm 10 2 144 1 10 [(0, aR 0 0), (1, aI l1), (2, aI l2)] [] Y (Pz (fun v => some (aI v)) o.1 o.2) (Ez o.1 o.2) := by
    intro l1 l2 Y h
    unfold fn_144_J10_1 at h
    refine w_sg k144 3 (pc' := 15) (ls' := [(0, aR 0 0), (1, aI l1), (2, aI l2)]) (st' := [aI (nI 500), aI l1, aR 0 0]) (cs' := []) (fun _ => rfl) al0 ?_
    obtain ⟨o31, Y18, hv19, ⟨_, ho32, h⟩ | ⟨x30, ho32, h⟩⟩ := bx_some h
    · subst ho32
      refine w_cV0 k144 (sn_157 _ _ _ _ hv19) rfl (st := []) rfl ?_ (fun _ _ q => q.elim)
      refine w_sg k144 4 (pc' := 26) (ls' := [(0, aR 0 0), (1, aI l1), (2, aI l2)]) (st' := [aR 21 0, aR 21 1]) (cs' := []) (fun _ => rfl) al0 ?_
      obtain ⟨_, Y20, hv21, h⟩ := bd_some h
      refine w_cV0 k144 (sn_72 _ _ _ _ hv21) rfl (st := []) rfl ?_ (fun _ _ q => q.elim)
      refine w_sg k144 5 (pc' := 38) (ls' := [(0, aR 0 0), (1, aI l1), (2, aI l2)]) (st' := [aR 39 0, aI l1, aR 21 1]) (cs' := []) (fun _ => rfl) al0 ?_
      obtain ⟨_, Y22, hv23, h⟩ := bd_some h
      refine w_cV0 k144 (sn_85 _ _ _ _ hv23) rfl (st := []) rfl ?_ (fun _ _ q => q.elim)
      refine w_sg k144 3 (pc' := 46) (ls' := [(0, aR 0 0), (1, aI l1), (2, aI l2)]) (st' := [aI l2, aR 21 1]) (cs' := []) (fun _ => rfl) al0 ?_
      obtain ⟨v26, Y24, hv25, h⟩ := bd_some h
      refine w_cV1 k144 (sn_75 _ _ _ _ hv25) rfl (st := []) rfl ?_ (fun _ _ q => q.elim)
      refine w_sg k144 3 (pc' := 54) (ls' := [(0, aR 0 0), (1, aI l1), (2, aI l2)]) (st' := [aI l2, aR 21 0, aI v26]) (cs' := []) (fun _ => rfl) al0 ?_
      obtain ⟨v29, Y27, hv28, h⟩ := bd_some h
      refine w_cV1 k144 (sn_75 _ _ _ _ hv28) rfl (st := [aI v26]) rfl ?_ (fun _ _ q => q.elim)
      refine w_sg k144 1 (pc' := 58) (ls' := [(0, aR 0 0), (1, aI l1), (2, aI l2)]) (st' := [aI (v26 - v29)]) (cs' := []) (fun _ => rfl) al0 ?_
      obtain rfl := Option.some.inj h
      exact w_ireturn k144 Pz_l
    · subst ho32
      obtain rfl := Option.some.inj h
      exact w_xcallV k144 (sn_157 _ _ _ _ hv19) rfl (st := []) rfl Ez_r
  refine w_sg k144 2 (pc' := 2) (ls' := [(0, aR 0 0), (1, aI a1), (2, aI a2)]) (st' := [aI (-1 : Int32), aI a2]) (cs' := []) (fun _ => rfl) al0 ?_
  refine w_icmp_eq k144 rfl (fun c => ?_) (fun c => ?_)
  · replace h := if_t c h
    refine w_ls [(0, aR 0 0), (1, aI a1), (2, aI a2)] (lq_c rfl (lq_c rfl (lq_c rfl lq_n))) ?_
    exact J10_0 _ _ _ h
  · replace h := if_f c h
    refine w_sg k144 2 (pc' := 7) (ls' := [(0, aR 0 0), (1, aI a1), (2, aI a2)]) (st' := [aI a2, aR 0 0]) (cs' := []) (fun _ => rfl) al0 ?_
    obtain ⟨o34, Y16, hv17, ⟨_, ho35, h⟩ | ⟨x33, ho35, h⟩⟩ := bx_some h
    · subst ho35
      refine w_cV0 k144 (sn_154 _ _ _ hv17) rfl (st := []) rfl ?_ (fun _ _ q => q.elim)
      refine w_ls [(0, aR 0 0), (1, aI a1), (2, aI a2)] (lq_c rfl (lq_c rfl (lq_c rfl lq_n))) ?_
      exact J10_1 _ _ _ h
    · subst ho35
      obtain rfl := Option.some.inj h
      exact w_xcallV k144 (sn_154 _ _ _ hv17) rfl (st := []) rfl Ez_r
set_option maxRecDepth 20000 in
set_option maxHeartbeats 4000000 in
/-- BallotBus.bestTally -/
theorem sn_146 (a1 : Int32) {Y : Sm} (v : (Int32 ⊕ Nat)) (Z : Sm) (h : fn_146 a1 Y = some (v, Z)) : Mt 10 1 146 [aR 0 0, aI a1] Y (Pz (fun v => some (aI v)) v Z) (Ez v Z) := by
  refine Mt_of [(0, aR 0 0), (1, aI a1)] ?_
  generalize ho : (v, Z) = o at h
  have hv9 : v = o.1 := congrArg Prod.fst ho
  have hZ9 : Z = o.2 := congrArg Prod.snd ho
  clear ho
  subst hv9 hZ9
  unfold fn_146 at h
  have L15_1 : ∀ (l1 : Int32) (n : Nat) (l2 : Int32) (l3 : Int32) (l4 : Int32) (Y : Sm), lp (fun s => fn_146_L15_1 l1 s.1 s.2.1 s.2.2.1 s.2.2.2) n (l2, l3, l4, Y) = some o → Wm 10 1 146 1 15 [(0, aR 0 0), (1, aI l1), (2, aI l2), (3, aI l3), (4, aI l4)] [] Y (Pz (fun v => some (aI v)) o.1 o.2) (Ez o.1 o.2) := by
    intro l1 n
    induction n with
    | zero => intro l2 l3 l4 Y h; cases h
    | succ n ih5 =>
      intro l2 l3 l4 Y h
      obtain ⟨q3, h, hn4⟩ := lp_succ h
      replace h : fn_146_L15_1 l1 l2 l3 l4 Y = some q3 := h
      unfold fn_146_L15_1 at h
      refine w_sg k146 2 (pc' := 18) (ls' := [(0, aR 0 0), (1, aI l1), (2, aI l2), (3, aI l3), (4, aI l4)]) (st' := [aI (nI 2), aI l4]) (cs' := []) (fun _ => rfl) al0 ?_
      refine w_icmp_gt k146 rfl (fun c => ?_) (fun c => ?_)
      · replace h := if_t c h
        refine w_sg k146 1 (pc' := 82) (ls' := [(0, aR 0 0), (1, aI l1), (2, aI l2), (3, aI l3), (4, aI l4)]) (st' := [aI l3]) (cs' := []) (fun _ => rfl) al0 ?_
        obtain rfl := Option.some.inj h
        obtain rfl := lpn_r hn4
        exact w_ireturn k146 Pz_l
      · replace h := if_f c h
        refine w_sg k146 4 (pc' := 29) (ls' := [(0, aR 0 0), (1, aI l1), (2, aI l2), (3, aI l3), (4, aI l4)]) (st' := [aR 21 0, aR 21 1]) (cs' := []) (fun _ => rfl) al0 ?_
        obtain ⟨_, Y6, hv7, h⟩ := bd_some h
        refine w_cV0 k146 (sn_72 _ _ _ _ hv7) rfl (st := []) rfl ?_ (fun _ _ q => q.elim)
        refine w_sw k146 4 (Z := (sI Y6 21 1 2 l4)) (pc' := 41) (ls' := [(0, aR 0 0), (1, aI l1), (2, aI l2), (3, aI l3), (4, aI l4)]) (st' := []) (cs' := [allw 21 1]) (fun _ => rfl) rfl (al1 rfl) ?_
        replace h := wr_some h
        generalize (sI Y6 21 1 2 l4) = Y8 at h ⊢
        refine w_sg k146 5 (pc' := 50) (ls' := [(0, aR 0 0), (1, aI l1), (2, aI l2), (3, aI l3), (4, aI l4)]) (st' := [aR 39 0, aI l1, aR 21 1]) (cs' := []) (fun _ => rfl) al0 ?_
        obtain ⟨_, Y9, hv10, h⟩ := bd_some h
        refine w_cV0 k146 (sn_85 _ _ _ _ hv10) rfl (st := []) rfl ?_ (fun _ _ q => q.elim)
        refine w_sg k146 4 (pc' := 61) (ls' := [(0, aR 0 0), (1, aI l1), (2, aI l2), (3, aI l3), (4, aI l4)]) (st' := [aI l2, aI (gI Y9.1 21 1 8)]) (cs' := []) (fun _ => rfl) al0 ?_
        refine w_icmp_le k146 rfl (fun c => ?_) (fun c => ?_)
        · replace h := if_t c h
          refine w_sg k146 1 (pc' := 78) (ls' := [(0, aR 0 0), (1, aI l1), (2, aI l2), (3, aI l3), (4, aI (l4 + (nI 1)))]) (st' := []) (cs' := []) (fun _ => rfl) al0 ?_
          refine w_sg k146 1 (pc' := 15) (ls' := [(0, aR 0 0), (1, aI l1), (2, aI l2), (3, aI l3), (4, aI (l4 + (nI 1)))]) (st' := []) (cs' := []) (fun _ => rfl) al0 ?_
          refine w_ls [(0, aR 0 0), (1, aI l1), (2, aI l2), (3, aI l3), (4, aI (l4 + (nI 1)))] (lq_c rfl (lq_c rfl (lq_c rfl (lq_c rfl (lq_c rfl lq_n))))) ?_
          obtain rfl := Option.some.inj h
          exact ih5 _ _ _ _ (lpn_l hn4)
        · replace h := if_f c h
          refine w_sg k146 4 (pc' := 72) (ls' := [(0, aR 0 0), (1, aI l1), (2, aI (gI Y9.1 21 1 8)), (3, aI l3), (4, aI l4)]) (st' := []) (cs' := []) (fun _ => rfl) al0 ?_
          refine w_sg k146 2 (pc' := 75) (ls' := [(0, aR 0 0), (1, aI l1), (2, aI (gI Y9.1 21 1 8)), (3, aI l4), (4, aI l4)]) (st' := []) (cs' := []) (fun _ => rfl) al0 ?_
          refine w_sg k146 1 (pc' := 78) (ls' := [(0, aR 0 0), (1, aI l1), (2, aI (gI Y9.1 21 1 8)), (3, aI l4), (4, aI (l4 + (nI 1)))]) (st' := []) (cs' := []) (fun _ => rfl) al0 ?_
          refine w_sg k146 1 (pc' := 15) (ls' := [(0, aR 0 0), (1, aI l1), (2, aI (gI Y9.1 21 1 8)), (3, aI l4), (4, aI (l4 + (nI 1)))]) (st' := []) (cs' := []) (fun _ => rfl) al0 ?_
          refine w_ls [(0, aR 0 0), (1, aI l1), (2, aI (gI Y9.1 21 1 8)), (3, aI l4), (4, aI (l4 + (nI 1)))] (lq_c rfl (lq_c rfl (lq_c rfl (lq_c rfl (lq_c rfl lq_n))))) ?_
          obtain rfl := Option.some.inj h
          exact ih5 _ _ _ _ (lpn_l hn4)
  refine w_sg k146 3 (pc' := 5) (ls' := [(0, aR 0 0), (1, aI a1)]) (st' := [aI (nI 500), aI a1, aR 0 0]) (cs' := []) (fun _ => rfl) al0 ?_
  obtain ⟨o12, Y1, hv2, ⟨_, ho13, h⟩ | ⟨x11, ho13, h⟩⟩ := bx_some h
  · subst ho13
    refine w_cV0 k146 (sn_157 _ _ _ _ hv2) rfl (st := []) rfl ?_ (fun _ _ q => q.elim)
    refine w_sg k146 2 (pc' := 10) (ls' := [(0, aR 0 0), (1, aI a1), (2, aI (-1 : Int32))]) (st' := []) (cs' := []) (fun _ => rfl) al0 ?_
    refine w_sg k146 2 (pc' := 12) (ls' := [(0, aR 0 0), (1, aI a1), (2, aI (-1 : Int32)), (3, aI (nI 0))]) (st' := []) (cs' := []) (fun _ => rfl) al0 ?_
    refine w_sg k146 2 (pc' := 15) (ls' := [(0, aR 0 0), (1, aI a1), (2, aI (-1 : Int32)), (3, aI (nI 0)), (4, aI (nI 0))]) (st' := []) (cs' := []) (fun _ => rfl) al0 ?_
    refine w_ls [(0, aR 0 0), (1, aI a1), (2, aI (-1 : Int32)), (3, aI (nI 0)), (4, aI (nI 0))] (lq_c rfl (lq_c rfl (lq_c rfl (lq_c rfl (lq_c rfl lq_n))))) ?_
    exact L15_1 _ _ _ _ _ _ h
  · subst ho13
    obtain rfl := Option.some.inj h
    exact w_xcallV k146 (sn_157 _ _ _ _ hv2) rfl (st := []) rfl Ez_r
set_option maxRecDepth 20000 in
set_option maxHeartbeats 4000000 in
/-- BallotBus.emptyIn -/
theorem sn_149 {Y : Sm} (v : Int32) (Z : Sm) (h : fn_149 Y = some (v, Z)) : Mt 9 0 149 [aR 0 0] Y (Rt (some (aI v)) Z) nX := by
  refine Mt_of [(0, aR 0 0)] ?_
  generalize ho : (v, Z) = o at h
  have hv9 : v = o.1 := congrArg Prod.fst ho
  have hZ9 : Z = o.2 := congrArg Prod.snd ho
  clear ho
  subst hv9 hZ9
  unfold fn_149 at h
  have L13_0 : ∀ (n : Nat) (l1 : Int32) (Y : Sm), lp (fun s => fn_149_L13 s.1 s.2) n (l1, Y) = some o → Wm 9 0 149 0 13 [(0, aR 0 0), (1, aI l1)] [] Y (Rt (some (aI o.1)) o.2) nX := by
    intro n
    induction n with
    | zero => intro l1 Y h; cases h
    | succ n ih5 =>
      intro l1 Y h
      obtain ⟨q3, h, hn4⟩ := lp_succ h
      replace h : fn_149_L13 l1 Y = some q3 := h
      unfold fn_149_L13 at h
      refine w_sg k149 2 (pc' := 17) (ls' := [(0, aR 0 0), (1, aI l1)]) (st' := [aI (nI 1000), aI l1]) (cs' := []) (fun _ => rfl) al0 ?_
      refine w_icmp_gt k149 rfl (fun c => ?_) (fun c => ?_)
      · replace h := if_t c h
        refine w_sg k149 1 (pc' := 53) (ls' := [(0, aR 0 0), (1, aI l1)]) (st' := [aI (-1 : Int32)]) (cs' := []) (fun _ => rfl) al0 ?_
        obtain rfl := Option.some.inj h
        obtain rfl := lpn_r hn4
        exact w_ireturn k149 ⟨rfl, rfl⟩
      · replace h := if_f c h
        refine w_sg k149 4 (pc' := 30) (ls' := [(0, aR 0 0), (1, aI l1)]) (st' := [aI (gI Y.1 12 4 1)]) (cs' := []) (fun _ => rfl) al0 ?_
        refine w_if_ne k149 rfl (fun c => ?_) (fun c => ?_)
        · replace h := if_f c h
          refine w_sg k149 4 (pc' := 43) (ls' := [(0, aR 0 0), (1, aI l1)]) (st' := [aR 39 0, aR 21 1]) (cs' := []) (fun _ => rfl) al0 ?_
          obtain ⟨_, Y6, hv7, h⟩ := bd_some h
          refine w_cV0 k149 (sn_86 _ _ _ hv7) rfl (st := []) rfl ?_ (fun _ _ q => q.elim)
          refine w_sg k149 1 (pc' := 49) (ls' := [(0, aR 0 0), (1, aI (l1 + (nI 1)))]) (st' := []) (cs' := []) (fun _ => rfl) al0 ?_
          refine w_sg k149 1 (pc' := 13) (ls' := [(0, aR 0 0), (1, aI (l1 + (nI 1)))]) (st' := []) (cs' := []) (fun _ => rfl) al0 ?_
          refine w_ls [(0, aR 0 0), (1, aI (l1 + (nI 1)))] (lq_c rfl (lq_c rfl lq_n)) ?_
          obtain rfl := Option.some.inj h
          exact ih5 _ _ (lpn_l hn4)
        · replace h := if_t c h
          refine w_sg k149 1 (pc' := 34) (ls' := [(0, aR 0 0), (1, aI l1)]) (st' := [aI l1]) (cs' := []) (fun _ => rfl) al0 ?_
          obtain rfl := Option.some.inj h
          obtain rfl := lpn_r hn4
          exact w_ireturn k149 ⟨rfl, rfl⟩
  refine w_sg k149 4 (pc' := 8) (ls' := [(0, aR 0 0)]) (st' := [aR 21 0, aR 21 1]) (cs' := []) (fun _ => rfl) al0 ?_
  obtain ⟨_, Y1, hv2, h⟩ := bd_some h
  refine w_cV0 k149 (sn_72 _ _ _ _ hv2) rfl (st := []) rfl ?_ (fun _ _ q => q.elim)
  refine w_sg k149 2 (pc' := 13) (ls' := [(0, aR 0 0), (1, aI (nI 0))]) (st' := []) (cs' := []) (fun _ => rfl) al0 ?_
  refine w_ls [(0, aR 0 0), (1, aI (nI 0))] (lq_c rfl (lq_c rfl lq_n)) ?_
  exact L13_0 _ _ _ h
set_option maxRecDepth 20000 in
set_option maxHeartbeats 4000000 in
/-- BallotBus.saveState -/
theorem sn_152 {Y : Sm} (v : Int32) (Z : Sm) (h : fn_152 Y = some (v, Z)) : Mt 6 0 152 [aR 0 0] Y (Rt (some (aI v)) Z) nX := by
  refine Mt_of [(0, aR 0 0)] ?_
  generalize ho : (v, Z) = o at h
  have hv9 : v = o.1 := congrArg Prod.fst ho
  have hZ9 : Z = o.2 := congrArg Prod.snd ho
  clear ho
  subst hv9 hZ9
  unfold fn_152 at h
  refine w_sg k152 4 (pc' := 8) (ls' := [(0, aR 0 0)]) (st' := [aR 21 0, aR 21 2]) (cs' := []) (fun _ => rfl) al0 ?_
  obtain ⟨_, Y1, hv2, h⟩ := bd_some h
  refine w_cV0 k152 (sn_72 _ _ _ _ hv2) rfl (st := []) rfl ?_ (fun _ _ q => q.elim)
  refine w_sw k152 3 (Z := (sI Y1 0 0 11 (nI 1))) (pc' := 16) (ls' := [(0, aR 0 0)]) (st' := []) (cs' := [allw 0 0, (nI 1) = 0 ∨ (nI 1) = 1]) (fun _ => rfl) rfl (al2 rfl (al1 (Or.inr rfl))) ?_
  replace h := wr_some h
  generalize (sI Y1 0 0 11 (nI 1)) = Y3 at h ⊢
  refine w_sg k152 3 (pc' := 23) (ls' := [(0, aR 0 0)]) (st' := [aI (gI Y3.1 21 0 1)]) (cs' := []) (fun _ => rfl) al0 ?_
  obtain rfl := Option.some.inj h
  exact w_ireturn k152 ⟨rfl, rfl⟩
set_option maxRecDepth 20000 in
set_option maxHeartbeats 4000000 in
/-- BallotBus.restoreState -/
theorem sn_153 {Y : Sm} (v : (Int32 ⊕ Nat)) (Z : Sm) (h : fn_153 Y = some (v, Z)) : Mt 6 1 153 [aR 0 0] Y (Pz (fun v => some (aI v)) v Z) (Ez v Z) := by
  refine Mt_of [(0, aR 0 0)] ?_
  generalize ho : (v, Z) = o at h
  have hv9 : v = o.1 := congrArg Prod.fst ho
  have hZ9 : Z = o.2 := congrArg Prod.snd ho
  clear ho
  subst hv9 hZ9
  unfold fn_153 at h
  refine w_sg k153 2 (pc' := 4) (ls' := [(0, aR 0 0)]) (st' := [aI (gI Y.1 0 0 11)]) (cs' := []) (fun _ => rfl) al0 ?_
  refine w_if_ne k153 rfl (fun c => ?_) (fun c => ?_)
  · replace h := if_f c h
    refine w_sg k153 4 (pc' := 26) (ls' := [(0, aR 0 0)]) (st' := [aR 21 2, aR 21 0]) (cs' := []) (fun _ => rfl) al0 ?_
    obtain ⟨_, Y1, hv2, h⟩ := bd_some h
    refine w_cV0 k153 (sn_72 _ _ _ _ hv2) rfl (st := []) rfl ?_ (fun _ _ q => q.elim)
    refine w_sw k153 4 (Z := (sI Y1 37 0 2 (nI 0))) (pc' := 37) (ls' := [(0, aR 0 0)]) (st' := []) (cs' := [allw 37 0]) (fun _ => rfl) rfl (al1 rfl) ?_
    replace h := wr_some h
    generalize (sI Y1 37 0 2 (nI 0)) = Y3 at h ⊢
    refine w_sg k153 3 (pc' := 44) (ls' := [(0, aR 0 0)]) (st' := [aI (gI Y3.1 21 0 1)]) (cs' := []) (fun _ => rfl) al0 ?_
    obtain rfl := Option.some.inj h
    exact w_ireturn k153 Pz_l
  · replace h := if_t c h
    obtain rfl := Option.some.inj h
    exact w_throw k153 rfl rfl Ez_r
