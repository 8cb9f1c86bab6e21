/-! the code of the methods does what their functions say (printed by wip/whole/gen20.py) -/
set_option maxRecDepth 20000 in
set_option maxHeartbeats 4000000 in
/-- BallotBus$Input.append -/
theorem sn_17 (a1 : Int32) {Y : Sm} (v : Unit) (Z : Sm) (h : fn_17 a1 Y = some (v, Z)) : Mt 4 0 17 [aR 1 0, aI a1] Y (Rt none Z) nX := by
  refine Mt_of [(0, aR 1 0), (1, aI a1)] ?_
  generalize ho : (v, Z) = o at h
  have hv9 : v = o.1 := congrArg Prod.fst ho
  have hZ9 : Z = o.2 := congrArg Prod.snd ho
  clear ho
  subst hv9 hZ9
  unfold fn_17 at h
  have L3_0 : ∀ (l1 : Int32) (n : Nat) (l2 : Int32) (Y : Sm), lp (fun s => fn_17_L3 l1 s.1 s.2) n (l2, Y) = some o → Wm 4 0 17 0 3 [(0, aR 1 0), (1, aI l1), (2, aI l2)] [] Y (Rt none o.2) nX := by
    intro l1 n
    induction n with
    | zero => intro l2 Y h; cases h
    | succ n ih3 =>
      intro l2 Y h
      obtain ⟨q1, h, hn2⟩ := lp_succ h
      replace h : fn_17_L3 l1 l2 Y = some q1 := h
      unfold fn_17_L3 at h
      refine w_sg k17 1 (pc' := 4) (ls' := [(0, aR 1 0), (1, aI l1), (2, aI l2)]) (st' := [aI l2]) (cs' := []) (fun _ => rfl) al0 ?_
      refine w_if_lt k17 rfl (fun c => ?_) (fun c => ?_)
      · replace h := if_t c h
        obtain rfl := Option.some.inj h
        obtain rfl := lpn_r hn2
        exact w_return k17 ⟨rfl, rfl⟩
      · replace h := if_f c h
        refine w_sg k17 3 (pc' := 14) (ls' := [(0, aR 1 0), (1, aI l1), (2, aI l2)]) (st' := [aI (nI 500), aI (gI Y.1 1 0 1)]) (cs' := []) (fun _ => rfl) al0 ?_
        refine w_icmp_ge k17 rfl (fun c => ?_) (fun c => ?_)
        · replace h := if_t c h
          refine w_sg k17 1 (pc' := 43) (ls' := [(0, aR 1 0), (1, aI l1), (2, aI (l2 + (-8 : Int32)))]) (st' := []) (cs' := []) (fun _ => rfl) al0 ?_
          refine w_sg k17 1 (pc' := 3) (ls' := [(0, aR 1 0), (1, aI l1), (2, aI (l2 + (-8 : Int32)))]) (st' := []) (cs' := []) (fun _ => rfl) al0 ?_
          refine w_ls [(0, aR 1 0), (1, aI l1), (2, aI (l2 + (-8 : Int32)))] (lq_c rfl (lq_c rfl (lq_c rfl lq_n))) ?_
          obtain rfl := Option.some.inj h
          exact ih3 _ _ (lpn_l hn2)
        · replace h := if_f c h
          refine w_sg k17 8 (pc' := 29) (ls' := [(0, aR 1 0), (1, aI l1), (2, aI l2)]) (st' := [aI (((l1 >>> (l2 &&& 31))).toInt8.toInt32), aI (gI Y.1 1 0 1), aR 2 0]) (cs' := []) (fun _ => rfl) al0 ?_
          obtain ⟨hc4, h⟩ := ck_some h
          refine w_sw k17 1 (Z := (sI Y 2 0 (ix (gI Y.1 1 0 1)) (((((l1 >>> (l2 &&& 31))).toInt8.toInt32)).toInt8.toInt32))) (pc' := 30) (ls' := [(0, aR 1 0), (1, aI l1), (2, aI l2)]) (st' := []) (cs' := [vp_in (gI Y.1 1 0 1) 500, allw 2 0]) (fun _ => rfl) rfl (al2 (vin hc4) (al1 rfl)) ?_
          replace h := wr_some h
          generalize (sI Y 2 0 (ix (gI Y.1 1 0 1)) (((((l1 >>> (l2 &&& 31))).toInt8.toInt32)).toInt8.toInt32)) = Y5 at h ⊢
          refine w_sw k17 6 (Z := (sI Y5 1 0 1 ((gI Y5.1 1 0 1) + (nI 1)))) (pc' := 40) (ls' := [(0, aR 1 0), (1, aI l1), (2, aI l2)]) (st' := []) (cs' := [allw 1 0]) (fun _ => rfl) rfl (al1 rfl) ?_
          replace h := wr_some h
          generalize (sI Y5 1 0 1 ((gI Y5.1 1 0 1) + (nI 1))) = Y6 at h ⊢
          refine w_sg k17 1 (pc' := 43) (ls' := [(0, aR 1 0), (1, aI l1), (2, aI (l2 + (-8 : Int32)))]) (st' := []) (cs' := []) (fun _ => rfl) al0 ?_
          refine w_sg k17 1 (pc' := 3) (ls' := [(0, aR 1 0), (1, aI l1), (2, aI (l2 + (-8 : Int32)))]) (st' := []) (cs' := []) (fun _ => rfl) al0 ?_
          refine w_ls [(0, aR 1 0), (1, aI l1), (2, aI (l2 + (-8 : Int32)))] (lq_c rfl (lq_c rfl (lq_c rfl lq_n))) ?_
          obtain rfl := Option.some.inj h
          exact ih3 _ _ (lpn_l hn2)
  refine w_sg k17 2 (pc' := 3) (ls' := [(0, aR 1 0), (1, aI a1), (2, aI (nI 24))]) (st' := []) (cs' := []) (fun _ => rfl) al0 ?_
  refine w_ls [(0, aR 1 0), (1, aI a1), (2, aI (nI 24))] (lq_c rfl (lq_c rfl (lq_c rfl lq_n))) ?_
  exact L3_0 _ _ _ _ h
set_option maxRecDepth 20000 in
set_option maxHeartbeats 4000000 in
/-- BallotBus.feed -/
theorem sn_104 (a1 : Int32) (a2 : Int32) (a3 : Int32) (a4 : Int32) (a5 : Int32) {Y : Sm} (v : Int32) (Z : Sm) (h : fn_104 a1 a2 a3 a4 a5 Y = some (v, Z)) : Mt 5 0 104 [aR 0 0, aI a1, aI a2, aI a3, aI a4, aI a5] Y (Rt (some (aI v)) Z) nX := by
  refine Mt_of [(0, aR 0 0), (1, aI a1), (2, aI a2), (3, aI a3), (4, aI a4), (5, aI a5)] ?_
  generalize ho : (v, Z) = o at h
  have hv9 : v = o.1 := congrArg Prod.fst ho
  have hZ9 : Z = o.2 := congrArg Prod.snd ho
  clear ho
  subst hv9 hZ9
  unfold fn_104 at h
  refine w_sg k104 4 (pc' := 10) (ls' := [(0, aR 0 0), (1, aI a1), (2, aI a2), (3, aI a3), (4, aI a4), (5, aI a5)]) (st' := [aI (nI 480), aI (gI Y.1 1 0 1)]) (cs' := []) (fun _ => rfl) al0 ?_
  refine w_icmp_le k104 rfl (fun c => ?_) (fun c => ?_)
  · replace h := if_t c h
    refine w_sg k104 3 (pc' := 20) (ls' := [(0, aR 0 0), (1, aI a1), (2, aI a2), (3, aI a3), (4, aI a4), (5, aI a5)]) (st' := [aI a1, aR 1 0]) (cs' := []) (fun _ => rfl) al0 ?_
    obtain ⟨_, Y1, hv2, h⟩ := bd_some h
    refine w_cV0 k104 (sn_17 _ _ _ hv2) rfl (st := []) rfl ?_ (fun _ _ q => q.elim)
    refine w_sg k104 3 (pc' := 28) (ls' := [(0, aR 0 0), (1, aI a1), (2, aI a2), (3, aI a3), (4, aI a4), (5, aI a5)]) (st' := [aI a2, aR 1 0]) (cs' := []) (fun _ => rfl) al0 ?_
    obtain ⟨_, Y3, hv4, h⟩ := bd_some h
    refine w_cV0 k104 (sn_17 _ _ _ hv4) rfl (st := []) rfl ?_ (fun _ _ q => q.elim)
    refine w_sg k104 3 (pc' := 36) (ls' := [(0, aR 0 0), (1, aI a1), (2, aI a2), (3, aI a3), (4, aI a4), (5, aI a5)]) (st' := [aI a3, aR 1 0]) (cs' := []) (fun _ => rfl) al0 ?_
    obtain ⟨_, Y5, hv6, h⟩ := bd_some h
    refine w_cV0 k104 (sn_17 _ _ _ hv6) rfl (st := []) rfl ?_ (fun _ _ q => q.elim)
    refine w_sg k104 3 (pc' := 45) (ls' := [(0, aR 0 0), (1, aI a1), (2, aI a2), (3, aI a3), (4, aI a4), (5, aI a5)]) (st' := [aI a4, aR 1 0]) (cs' := []) (fun _ => rfl) al0 ?_
    obtain ⟨_, Y7, hv8, h⟩ := bd_some h
    refine w_cV0 k104 (sn_17 _ _ _ hv8) rfl (st := []) rfl ?_ (fun _ _ q => q.elim)
    refine w_sg k104 3 (pc' := 54) (ls' := [(0, aR 0 0), (1, aI a1), (2, aI a2), (3, aI a3), (4, aI a4), (5, aI a5)]) (st' := [aI a5, aR 1 0]) (cs' := []) (fun _ => rfl) al0 ?_
    obtain ⟨_, Y9, hv10, h⟩ := bd_some h
    refine w_cV0 k104 (sn_17 _ _ _ hv10) rfl (st := []) rfl ?_ (fun _ _ q => q.elim)
    refine w_sg k104 3 (pc' := 64) (ls' := [(0, aR 0 0), (1, aI a1), (2, aI a2), (3, aI a3), (4, aI a4), (5, aI a5)]) (st' := [aI (gI Y9.1 1 0 1)]) (cs' := []) (fun _ => rfl) al0 ?_
    obtain rfl := Option.some.inj h
    exact w_ireturn k104 ⟨rfl, rfl⟩
  · replace h := if_f c h
    refine w_sg k104 1 (pc' := 14) (ls' := [(0, aR 0 0), (1, aI a1), (2, aI a2), (3, aI a3), (4, aI a4), (5, aI a5)]) (st' := [aI (-1 : Int32)]) (cs' := []) (fun _ => rfl) al0 ?_
    obtain rfl := Option.some.inj h
    exact w_ireturn k104 ⟨rfl, rfl⟩
set_option maxRecDepth 20000 in
set_option maxHeartbeats 4000000 in
/-- BallotBus.truncate -/
theorem sn_105 (a1 : Int32) {Y : Sm} (v : Int32) (Z : Sm) (h : fn_105 a1 Y = some (v, Z)) : Mt 4 0 105 [aR 0 0, aI a1] Y (Rt (some (aI v)) Z) nX := by
  refine Mt_of [(0, aR 0 0), (1, aI a1)] ?_
  generalize ho : (v, Z) = o at h
  have hv9 : v = o.1 := congrArg Prod.fst ho
  have hZ9 : Z = o.2 := congrArg Prod.snd ho
  clear ho
  subst hv9 hZ9
  unfold fn_105 at h
  refine w_sg k105 1 (pc' := 1) (ls' := [(0, aR 0 0), (1, aI a1)]) (st' := [aI a1]) (cs' := []) (fun _ => rfl) al0 ?_
  refine w_if_lt k105 rfl (fun c => ?_) (fun c => ?_)
  · replace h := if_t c h
    refine w_sg k105 1 (pc' := 16) (ls' := [(0, aR 0 0), (1, aI a1)]) (st' := [aI (nI 0)]) (cs' := []) (fun _ => rfl) al0 ?_
    obtain rfl := Option.some.inj h
    exact w_zreturn k105 (Or.inl rfl) ⟨rfl, rfl⟩
  · replace h := if_f c h
    refine w_sg k105 4 (pc' := 12) (ls' := [(0, aR 0 0), (1, aI a1)]) (st' := [aI (gI Y.1 1 0 1), aI a1]) (cs' := []) (fun _ => rfl) al0 ?_
    refine w_icmp_le k105 rfl (fun c => ?_) (fun c => ?_)
    · replace h := if_t c h
      refine w_sw k105 4 (Z := (sI Y 1 0 1 a1)) (pc' := 25) (ls' := [(0, aR 0 0), (1, aI a1)]) (st' := []) (cs' := [allw 1 0]) (fun _ => rfl) rfl (al1 rfl) ?_
      replace h := wr_some h
      generalize (sI Y 1 0 1 a1) = Y1 at h ⊢
      refine w_sg k105 1 (pc' := 26) (ls' := [(0, aR 0 0), (1, aI a1)]) (st' := [aI (nI 1)]) (cs' := []) (fun _ => rfl) al0 ?_
      obtain rfl := Option.some.inj h
      exact w_zreturn k105 (Or.inr rfl) ⟨rfl, rfl⟩
    · replace h := if_f c h
      refine w_sg k105 1 (pc' := 16) (ls' := [(0, aR 0 0), (1, aI a1)]) (st' := [aI (nI 0)]) (cs' := []) (fun _ => rfl) al0 ?_
      obtain rfl := Option.some.inj h
      exact w_zreturn k105 (Or.inl rfl) ⟨rfl, rfl⟩
set_option maxRecDepth 20000 in
set_option maxHeartbeats 4000000 in
/-- BallotBus$Requests.clear -/
theorem sn_34 (i0 : Nat) {Y : Sm} (v : Unit) (Z : Sm) (h : fn_34 i0 Y = some (v, Z)) : Mt 4 0 34 [aR 12 i0] Y (Rt none Z) nX := by
  refine Mt_of [(0, aR 12 i0)] ?_
  generalize ho : (v, Z) = o at h
  have hv9 : v = o.1 := congrArg Prod.fst ho
  have hZ9 : Z = o.2 := congrArg Prod.snd ho
  clear ho
  subst hv9 hZ9
  unfold fn_34 at h
  refine w_sw k34 3 (Z := (sI Y 12 i0 1 (nI 0))) (pc' := 5) (ls' := [(0, aR 12 i0)]) (st' := []) (cs' := [allw 12 i0]) (fun _ => rfl) rfl (al1 rfl) ?_
  replace h := wr_some h
  generalize (sI Y 12 i0 1 (nI 0)) = Y1 at h ⊢
  refine w_sw k34 3 (Z := (sI Y1 12 i0 2 (-1 : Int32))) (pc' := 10) (ls' := [(0, aR 12 i0)]) (st' := []) (cs' := [allw 12 i0]) (fun _ => rfl) rfl (al1 rfl) ?_
  replace h := wr_some h
  generalize (sI Y1 12 i0 2 (-1 : Int32)) = Y2 at h ⊢
  obtain rfl := Option.some.inj h
  exact w_return k34 ⟨rfl, rfl⟩
set_option maxRecDepth 20000 in
set_option maxHeartbeats 4000000 in
/-- BallotBus$Setup.setDefaults -/
theorem sn_53 (i0 : Nat) {Y : Sm} (v : Unit) (Z : Sm) (h : fn_53 i0 Y = some (v, Z)) : Mt 4 0 53 [aR 5 i0] Y (Rt none Z) nX := by
  refine Mt_of [(0, aR 5 i0)] ?_
  generalize ho : (v, Z) = o at h
  have hv9 : v = o.1 := congrArg Prod.fst ho
  have hZ9 : Z = o.2 := congrArg Prod.snd ho
  clear ho
  subst hv9 hZ9
  unfold fn_53 at h
  refine w_sw k53 5 (Z := (sI Y 11 i0 0 (nI 3))) (pc' := 7) (ls' := [(0, aR 5 i0)]) (st' := []) (cs' := [vp_in (nI 0) 5, allw 11 i0]) (fun _ => rfl) rfl (al2 (vin rfl) (al1 rfl)) ?_
  replace h := wr_some h
  generalize (sI Y 11 i0 0 (nI 3)) = Y1 at h ⊢
  refine w_sw k53 5 (Z := (sI Y1 11 i0 1 (nI 6))) (pc' := 15) (ls' := [(0, aR 5 i0)]) (st' := []) (cs' := [vp_in (nI 1) 5, allw 11 i0]) (fun _ => rfl) rfl (al2 (vin rfl) (al1 rfl)) ?_
  replace h := wr_some h
  generalize (sI Y1 11 i0 1 (nI 6)) = Y2 at h ⊢
  refine w_sw k53 5 (Z := (sI Y2 11 i0 2 (nI 10))) (pc' := 23) (ls' := [(0, aR 5 i0)]) (st' := []) (cs' := [vp_in (nI 2) 5, allw 11 i0]) (fun _ => rfl) rfl (al2 (vin rfl) (al1 rfl)) ?_
  replace h := wr_some h
  generalize (sI Y2 11 i0 2 (nI 10)) = Y3 at h ⊢
  refine w_sw k53 5 (Z := (sI Y3 11 i0 3 (nI 0))) (pc' := 30) (ls' := [(0, aR 5 i0)]) (st' := []) (cs' := [vp_in (nI 3) 5, allw 11 i0]) (fun _ => rfl) rfl (al2 (vin rfl) (al1 rfl)) ?_
  replace h := wr_some h
  generalize (sI Y3 11 i0 3 (nI 0)) = Y4 at h ⊢
  refine w_sw k53 5 (Z := (sI Y4 11 i0 4 (nI 3))) (pc' := 37) (ls' := [(0, aR 5 i0)]) (st' := []) (cs' := [vp_in (nI 4) 5, allw 11 i0]) (fun _ => rfl) rfl (al2 (vin rfl) (al1 rfl)) ?_
  replace h := wr_some h
  generalize (sI Y4 11 i0 4 (nI 3)) = Y5 at h ⊢
  obtain rfl := Option.some.inj h
  exact w_return k53 ⟨rfl, rfl⟩
set_option maxRecDepth 20000 in
set_option maxHeartbeats 4000000 in
/-- BallotBus$Setup.clear -/
theorem sn_52 (i0 : Nat) {Y : Sm} (v : Unit) (Z : Sm) (h : fn_52 i0 Y = some (v, Z)) : Mt 5 0 52 [aR 5 i0] Y (Rt none Z) nX := by
  refine Mt_of [(0, aR 5 i0)] ?_
  generalize ho : (v, Z) = o at h
  have hv9 : v = o.1 := congrArg Prod.fst ho
  have hZ9 : Z = o.2 := congrArg Prod.snd ho
  clear ho
  subst hv9 hZ9
  unfold fn_52 at h
  refine w_sw k52 3 (Z := (sI Y 5 i0 0 (nI 0))) (pc' := 5) (ls' := [(0, aR 5 i0)]) (st' := []) (cs' := [allw 5 i0]) (fun _ => rfl) rfl (al1 rfl) ?_
  replace h := wr_some h
  generalize (sI Y 5 i0 0 (nI 0)) = Y1 at h ⊢
  refine w_sw k52 3 (Z := (sI Y1 5 i0 3 (nI 0))) (pc' := 10) (ls' := [(0, aR 5 i0)]) (st' := []) (cs' := [allw 5 i0]) (fun _ => rfl) rfl (al1 rfl) ?_
  replace h := wr_some h
  generalize (sI Y1 5 i0 3 (nI 0)) = Y2 at h ⊢
  refine w_sw k52 3 (Z := (sI Y2 5 i0 7 (nI 0))) (pc' := 15) (ls' := [(0, aR 5 i0)]) (st' := []) (cs' := [allw 5 i0]) (fun _ => rfl) rfl (al1 rfl) ?_
  replace h := wr_some h
  generalize (sI Y2 5 i0 7 (nI 0)) = Y3 at h ⊢
  refine w_sg k52 2 (pc' := 19) (ls' := [(0, aR 5 i0)]) (st' := [aR 12 i0]) (cs' := []) (fun _ => rfl) al0 ?_
  obtain ⟨_, Y4, hv5, h⟩ := bd_some h
  refine w_cV0 k52 (sn_34 _ _ _ hv5) rfl (st := []) rfl ?_ (fun _ _ q => q.elim)
  refine w_sg k52 1 (pc' := 23) (ls' := [(0, aR 5 i0)]) (st' := [aR 5 i0]) (cs' := []) (fun _ => rfl) al0 ?_
  obtain ⟨_, Y6, hv7, h⟩ := bd_some h
  refine w_cV0 k52 (sn_53 _ _ _ hv7) rfl (st := []) rfl ?_ (fun _ _ q => q.elim)
  obtain rfl := Option.some.inj h
  exact w_return k52 ⟨rfl, rfl⟩
set_option maxRecDepth 20000 in
set_option maxHeartbeats 4000000 in
/-- BallotBus$Input.byteAt -/
theorem sn_18 (a1 : Int32) {Y : Sm} (v : Int32) (Z : Sm) (h : fn_18 a1 Y = some (v, Z)) : Mt 4 0 18 [aR 1 0, aI a1] Y (Rt (some (aI v)) Z) nX := by
  refine Mt_of [(0, aR 1 0), (1, aI a1)] ?_
  generalize ho : (v, Z) = o at h
  have hv9 : v = o.1 := congrArg Prod.fst ho
  have hZ9 : Z = o.2 := congrArg Prod.snd ho
  clear ho
  subst hv9 hZ9
  unfold fn_18 at h
  refine w_sg k18 1 (pc' := 1) (ls' := [(0, aR 1 0), (1, aI a1)]) (st' := [aI a1]) (cs' := []) (fun _ => rfl) al0 ?_
  refine w_if_lt k18 rfl (fun c => ?_) (fun c => ?_)
  · replace h := if_t c h
    refine w_sg k18 2 (pc' := 26) (ls' := [(0, aR 1 0), (1, aI a1)]) (st' := [aI (-1 : Int32)]) (cs' := []) (fun _ => rfl) al0 ?_
    obtain rfl := Option.some.inj h
    exact w_ireturn k18 ⟨rfl, rfl⟩
  · replace h := if_f c h
    refine w_sg k18 3 (pc' := 9) (ls' := [(0, aR 1 0), (1, aI a1)]) (st' := [aI (gI Y.1 1 0 1), aI a1]) (cs' := []) (fun _ => rfl) al0 ?_
    refine w_icmp_lt k18 rfl (fun c => ?_) (fun c => ?_)
    · replace h := if_t c h
      obtain ⟨hc1, h⟩ := ck_some h
      refine w_sg k18 6 (pc' := 26) (ls' := [(0, aR 1 0), (1, aI a1)]) (st' := [aI ((gI Y.1 2 0 (ix a1)) &&& (nI 255))]) (cs' := [vp_in a1 500]) (fun _ => rfl) (al1 (vin hc1)) ?_
      obtain rfl := Option.some.inj h
      exact w_ireturn k18 ⟨rfl, rfl⟩
    · replace h := if_f c h
      refine w_sg k18 2 (pc' := 26) (ls' := [(0, aR 1 0), (1, aI a1)]) (st' := [aI (-1 : Int32)]) (cs' := []) (fun _ => rfl) al0 ?_
      obtain rfl := Option.some.inj h
      exact w_ireturn k18 ⟨rfl, rfl⟩
set_option maxRecDepth 20000 in
set_option maxHeartbeats 4000000 in
/-- BallotBus$Input.isBlank -/
theorem sn_21 (a1 : Int32) {Y : Sm} (v : Int32) (Z : Sm) (h : fn_21 a1 Y = some (v, Z)) : Mt 5 0 21 [aR 1 0, aI a1] Y (Rt (some (aI v)) Z) nX := by
  refine Mt_of [(0, aR 1 0), (1, aI a1)] ?_
  generalize ho : (v, Z) = o at h
  have hv9 : v = o.1 := congrArg Prod.fst ho
  have hZ9 : Z = o.2 := congrArg Prod.snd ho
  clear ho
  subst hv9 hZ9
  unfold fn_21 at h
  refine w_sg k21 2 (pc' := 2) (ls' := [(0, aR 1 0), (1, aI a1)]) (st' := [aI a1, aR 1 0]) (cs' := []) (fun _ => rfl) al0 ?_
  obtain ⟨v3, Y1, hv2, h⟩ := bd_some h
  refine w_cV1 k21 (sn_18 _ _ _ hv2) rfl (st := []) rfl ?_ (fun _ _ q => q.elim)
  refine w_sg k21 1 (pc' := 6) (ls' := [(0, aR 1 0), (1, aI a1), (2, aI v3)]) (st' := []) (cs' := []) (fun _ => rfl) al0 ?_
  refine w_sg k21 2 (pc' := 9) (ls' := [(0, aR 1 0), (1, aI a1), (2, aI v3)]) (st' := [aI (nI 32), aI v3]) (cs' := []) (fun _ => rfl) al0 ?_
  refine w_icmp_eq k21 rfl (fun c => ?_) (fun c => ?_)
  · replace h := if_t c h
    refine w_sg k21 2 (pc' := 23) (ls' := [(0, aR 1 0), (1, aI a1), (2, aI v3)]) (st' := [aI (nI 1)]) (cs' := []) (fun _ => rfl) al0 ?_
    obtain rfl := Option.some.inj h
    exact w_zreturn k21 (Or.inr rfl) ⟨rfl, rfl⟩
  · replace h := if_f c h
    refine w_sg k21 2 (pc' := 15) (ls' := [(0, aR 1 0), (1, aI a1), (2, aI v3)]) (st' := [aI (nI 10), aI v3]) (cs' := []) (fun _ => rfl) al0 ?_
    refine w_icmp_ne k21 rfl (fun c => ?_) (fun c => ?_)
    · replace h := if_f c h
      refine w_sg k21 1 (pc' := 23) (ls' := [(0, aR 1 0), (1, aI a1), (2, aI v3)]) (st' := [aI (nI 0)]) (cs' := []) (fun _ => rfl) al0 ?_
      obtain rfl := Option.some.inj h
      exact w_zreturn k21 (Or.inl rfl) ⟨rfl, rfl⟩
    · replace h := if_t c h
      refine w_sg k21 2 (pc' := 23) (ls' := [(0, aR 1 0), (1, aI a1), (2, aI v3)]) (st' := [aI (nI 1)]) (cs' := []) (fun _ => rfl) al0 ?_
      obtain rfl := Option.some.inj h
      exact w_zreturn k21 (Or.inr rfl) ⟨rfl, rfl⟩
set_option maxRecDepth 20000 in
set_option maxHeartbeats 4000000 in
/-- BallotBus$Input.isLetter -/
theorem sn_19 (a1 : Int32) {Y : Sm} (v : Int32) (Z : Sm) (h : fn_19 a1 Y = some (v, Z)) : Mt 5 0 19 [aR 1 0, aI a1] Y (Rt (some (aI v)) Z) nX := by
  refine Mt_of [(0, aR 1 0), (1, aI a1)] ?_
  generalize ho : (v, Z) = o at h
  have hv9 : v = o.1 := congrArg Prod.fst ho
  have hZ9 : Z = o.2 := congrArg Prod.snd ho
  clear ho
  subst hv9 hZ9
  unfold fn_19 at h
  refine w_sg k19 2 (pc' := 2) (ls' := [(0, aR 1 0), (1, aI a1)]) (st' := [aI a1, aR 1 0]) (cs' := []) (fun _ => rfl) al0 ?_
  obtain ⟨v3, Y1, hv2, h⟩ := bd_some h
  refine w_cV1 k19 (sn_18 _ _ _ hv2) rfl (st := []) rfl ?_ (fun _ _ q => q.elim)
  refine w_sg k19 1 (pc' := 6) (ls' := [(0, aR 1 0), (1, aI a1), (2, aI v3)]) (st' := []) (cs' := []) (fun _ => rfl) al0 ?_
  refine w_sg k19 2 (pc' := 9) (ls' := [(0, aR 1 0), (1, aI a1), (2, aI v3)]) (st' := [aI (nI 97), aI v3]) (cs' := []) (fun _ => rfl) al0 ?_
  refine w_icmp_lt k19 rfl (fun c => ?_) (fun c => ?_)
  · replace h := if_t c h
    refine w_sg k19 1 (pc' := 23) (ls' := [(0, aR 1 0), (1, aI a1), (2, aI v3)]) (st' := [aI (nI 0)]) (cs' := []) (fun _ => rfl) al0 ?_
    obtain rfl := Option.some.inj h
    exact w_zreturn k19 (Or.inl rfl) ⟨rfl, rfl⟩
  · replace h := if_f c h
    refine w_sg k19 2 (pc' := 15) (ls' := [(0, aR 1 0), (1, aI a1), (2, aI v3)]) (st' := [aI (nI 122), aI v3]) (cs' := []) (fun _ => rfl) al0 ?_
    refine w_icmp_gt k19 rfl (fun c => ?_) (fun c => ?_)
    · replace h := if_t c h
      refine w_sg k19 1 (pc' := 23) (ls' := [(0, aR 1 0), (1, aI a1), (2, aI v3)]) (st' := [aI (nI 0)]) (cs' := []) (fun _ => rfl) al0 ?_
      obtain rfl := Option.some.inj h
      exact w_zreturn k19 (Or.inl rfl) ⟨rfl, rfl⟩
    · replace h := if_f c h
      refine w_sg k19 2 (pc' := 23) (ls' := [(0, aR 1 0), (1, aI a1), (2, aI v3)]) (st' := [aI (nI 1)]) (cs' := []) (fun _ => rfl) al0 ?_
      obtain rfl := Option.some.inj h
      exact w_zreturn k19 (Or.inr rfl) ⟨rfl, rfl⟩
set_option maxRecDepth 20000 in
set_option maxHeartbeats 4000000 in
/-- BallotBus$Input.isDigit -/
theorem sn_20 (a1 : Int32) {Y : Sm} (v : Int32) (Z : Sm) (h : fn_20 a1 Y = some (v, Z)) : Mt 5 0 20 [aR 1 0, aI a1] Y (Rt (some (aI v)) Z) nX := by
  refine Mt_of [(0, aR 1 0), (1, aI a1)] ?_
  generalize ho : (v, Z) = o at h
  have hv9 : v = o.1 := congrArg Prod.fst ho
  have hZ9 : Z = o.2 := congrArg Prod.snd ho
  clear ho
  subst hv9 hZ9
  unfold fn_20 at h
  refine w_sg k20 2 (pc' := 2) (ls' := [(0, aR 1 0), (1, aI a1)]) (st' := [aI a1, aR 1 0]) (cs' := []) (fun _ => rfl) al0 ?_
  obtain ⟨v3, Y1, hv2, h⟩ := bd_some h
  refine w_cV1 k20 (sn_18 _ _ _ hv2) rfl (st := []) rfl ?_ (fun _ _ q => q.elim)
  refine w_sg k20 1 (pc' := 6) (ls' := [(0, aR 1 0), (1, aI a1), (2, aI v3)]) (st' := []) (cs' := []) (fun _ => rfl) al0 ?_
  refine w_sg k20 2 (pc' := 9) (ls' := [(0, aR 1 0), (1, aI a1), (2, aI v3)]) (st' := [aI (nI 48), aI v3]) (cs' := []) (fun _ => rfl) al0 ?_
  refine w_icmp_lt k20 rfl (fun c => ?_) (fun c => ?_)
  · replace h := if_t c h
    refine w_sg k20 1 (pc' := 23) (ls' := [(0, aR 1 0), (1, aI a1), (2, aI v3)]) (st' := [aI (nI 0)]) (cs' := []) (fun _ => rfl) al0 ?_
    obtain rfl := Option.some.inj h
    exact w_zreturn k20 (Or.inl rfl) ⟨rfl, rfl⟩
  · replace h := if_f c h
    refine w_sg k20 2 (pc' := 15) (ls' := [(0, aR 1 0), (1, aI a1), (2, aI v3)]) (st' := [aI (nI 57), aI v3]) (cs' := []) (fun _ => rfl) al0 ?_
    refine w_icmp_gt k20 rfl (fun c => ?_) (fun c => ?_)
    · replace h := if_t c h
      refine w_sg k20 1 (pc' := 23) (ls' := [(0, aR 1 0), (1, aI a1), (2, aI v3)]) (st' := [aI (nI 0)]) (cs' := []) (fun _ => rfl) al0 ?_
      obtain rfl := Option.some.inj h
      exact w_zreturn k20 (Or.inl rfl) ⟨rfl, rfl⟩
    · replace h := if_f c h
      refine w_sg k20 2 (pc' := 23) (ls' := [(0, aR 1 0), (1, aI a1), (2, aI v3)]) (st' := [aI (nI 1)]) (cs' := []) (fun _ => rfl) al0 ?_
      obtain rfl := Option.some.inj h
      exact w_zreturn k20 (Or.inr rfl) ⟨rfl, rfl⟩
set_option maxRecDepth 20000 in
set_option maxHeartbeats 4000000 in
/-- BallotBus$Tokens.advance -/
theorem sn_95 {Y : Sm} (v : Unit) (Z : Sm) (h : fn_95 Y = some (v, Z)) : Mt 6 0 95 [aR 4 0] Y (Rt none Z) nX := by
  refine Mt_of [(0, aR 4 0)] ?_
  generalize ho : (v, Z) = o at h
  have hv9 : v = o.1 := congrArg Prod.fst ho
  have hZ9 : Z = o.2 := congrArg Prod.snd ho
  clear ho
  subst hv9 hZ9
  unfold fn_95 at h
  have L8_0 : ∀ (n : Nat) (Y : Sm) (e5 : (Sm) ⊕ (Unit × Sm)), lp (fun s => fn_95_L8 s) n (Y) = some e5 → (∀ s9 : (Sm), e5 = .inl s9 → Wm 6 0 95 0 49 [(0, aR 4 0)] [] s9 (Rt none o.2) nX) → (∀ r, e5 = .inr r → r = o) → Wm 6 0 95 0 8 [(0, aR 4 0)] [] Y (Rt none o.2) nX := by
    intro n
    induction n with
    | zero => intro Y e5 h; cases h
    | succ n ih4 =>
      intro Y e5 h kE6 kR7
      obtain ⟨q2, h, hn3⟩ := lp_succ h
      replace h : fn_95_L8 Y = some q2 := h
      unfold fn_95_L8 at h
      refine w_sg k95 5 (pc' := 19) (ls' := [(0, aR 4 0)]) (st' := [aI (gI Y.1 1 0 1), aI (gI Y.1 4 0 2)]) (cs' := []) (fun _ => rfl) al0 ?_
      refine w_icmp_ge k95 rfl (fun c => ?_) (fun c => ?_)
      · replace h := if_t c h
        refine w_ls [(0, aR 4 0)] (lq_c rfl lq_n) ?_
        obtain rfl := Option.some.inj h
        obtain rfl := lpn_r hn3
        exact kE6 (Y) rfl
      · replace h := if_f c h
        refine w_sg k95 4 (pc' := 30) (ls' := [(0, aR 4 0)]) (st' := [aI (gI Y.1 4 0 2), aR 1 0]) (cs' := []) (fun _ => rfl) al0 ?_
        obtain ⟨v10, Y8, hv9, h⟩ := bd_some h
        refine w_cV1 k95 (sn_21 _ _ _ hv9) rfl (st := []) rfl ?_ (fun _ _ q => q.elim)
        refine w_if_eq k95 rfl (fun c => ?_) (fun c => ?_)
        · replace h := if_t c h
          refine w_ls [(0, aR 4 0)] (lq_c rfl lq_n) ?_
          obtain rfl := Option.some.inj h
          obtain rfl := lpn_r hn3
          exact kE6 (Y8) rfl
        · replace h := if_f c h
          refine w_sw k95 6 (Z := (sI Y8 4 0 2 ((gI Y8.1 4 0 2) + (nI 1)))) (pc' := 46) (ls' := [(0, aR 4 0)]) (st' := []) (cs' := [allw 4 0]) (fun _ => rfl) rfl (al1 rfl) ?_
          replace h := wr_some h
          generalize (sI Y8 4 0 2 ((gI Y8.1 4 0 2) + (nI 1))) = Y11 at h ⊢
          refine w_sg k95 1 (pc' := 8) (ls' := [(0, aR 4 0)]) (st' := []) (cs' := []) (fun _ => rfl) al0 ?_
          refine w_ls [(0, aR 4 0)] (lq_c rfl lq_n) ?_
          obtain rfl := Option.some.inj h
          exact ih4 _ _ (lpn_l hn3) kE6 kR7
  have L158_0 : ∀ (n : Nat) (Y : Sm), lp (fun s => fn_95_L158 s) n (Y) = some o → Wm 6 0 95 0 158 [(0, aR 4 0)] [] Y (Rt none o.2) nX := by
    intro n
    induction n with
    | zero => intro Y h; cases h
    | succ n ih29 =>
      intro Y h
      obtain ⟨q27, h, hn28⟩ := lp_succ h
      replace h : fn_95_L158 Y = some q27 := h
      unfold fn_95_L158 at h
      refine w_sg k95 5 (pc' := 169) (ls' := [(0, aR 4 0)]) (st' := [aI (gI Y.1 1 0 1), aI (gI Y.1 4 0 3)]) (cs' := []) (fun _ => rfl) al0 ?_
      refine w_icmp_ge k95 rfl (fun c => ?_) (fun c => ?_)
      · replace h := if_t c h
        obtain rfl := Option.some.inj h
        obtain rfl := lpn_r hn28
        exact w_return k95 ⟨rfl, rfl⟩
      · replace h := if_f c h
        refine w_sg k95 4 (pc' := 180) (ls' := [(0, aR 4 0)]) (st' := [aI (gI Y.1 4 0 3), aR 1 0]) (cs' := []) (fun _ => rfl) al0 ?_
        obtain ⟨v32, Y30, hv31, h⟩ := bd_some h
        refine w_cV1 k95 (sn_20 _ _ _ hv31) rfl (st := []) rfl ?_ (fun _ _ q => q.elim)
        refine w_if_eq k95 rfl (fun c => ?_) (fun c => ?_)
        · replace h := if_t c h
          obtain rfl := Option.some.inj h
          obtain rfl := lpn_r hn28
          exact w_return k95 ⟨rfl, rfl⟩
        · replace h := if_f c h
          refine w_sw k95 6 (Z := (sI Y30 4 0 3 ((gI Y30.1 4 0 3) + (nI 1)))) (pc' := 196) (ls' := [(0, aR 4 0)]) (st' := []) (cs' := [allw 4 0]) (fun _ => rfl) rfl (al1 rfl) ?_
          replace h := wr_some h
          generalize (sI Y30 4 0 3 ((gI Y30.1 4 0 3) + (nI 1))) = Y33 at h ⊢
          refine w_sg k95 1 (pc' := 158) (ls' := [(0, aR 4 0)]) (st' := []) (cs' := []) (fun _ => rfl) al0 ?_
          refine w_ls [(0, aR 4 0)] (lq_c rfl lq_n) ?_
          obtain rfl := Option.some.inj h
          exact ih29 _ (lpn_l hn28)
  have L98_0 : ∀ (n : Nat) (Y : Sm), lp (fun s => fn_95_L98 s) n (Y) = some o → Wm 6 0 95 0 98 [(0, aR 4 0)] [] Y (Rt none o.2) nX := by
    intro n
    induction n with
    | zero => intro Y h; cases h
    | succ n ih37 =>
      intro Y h
      obtain ⟨q35, h, hn36⟩ := lp_succ h
      replace h : fn_95_L98 Y = some q35 := h
      unfold fn_95_L98 at h
      refine w_sg k95 5 (pc' := 109) (ls' := [(0, aR 4 0)]) (st' := [aI (gI Y.1 1 0 1), aI (gI Y.1 4 0 3)]) (cs' := []) (fun _ => rfl) al0 ?_
      refine w_icmp_ge k95 rfl (fun c => ?_) (fun c => ?_)
      · replace h := if_t c h
        obtain rfl := Option.some.inj h
        obtain rfl := lpn_r hn36
        exact w_return k95 ⟨rfl, rfl⟩
      · replace h := if_f c h
        refine w_sg k95 4 (pc' := 120) (ls' := [(0, aR 4 0)]) (st' := [aI (gI Y.1 4 0 3), aR 1 0]) (cs' := []) (fun _ => rfl) al0 ?_
        obtain ⟨v40, Y38, hv39, h⟩ := bd_some h
        refine w_cV1 k95 (sn_19 _ _ _ hv39) rfl (st := []) rfl ?_ (fun _ _ q => q.elim)
        refine w_if_eq k95 rfl (fun c => ?_) (fun c => ?_)
        · replace h := if_t c h
          obtain rfl := Option.some.inj h
          obtain rfl := lpn_r hn36
          exact w_return k95 ⟨rfl, rfl⟩
        · replace h := if_f c h
          refine w_sw k95 6 (Z := (sI Y38 4 0 3 ((gI Y38.1 4 0 3) + (nI 1)))) (pc' := 136) (ls' := [(0, aR 4 0)]) (st' := []) (cs' := [allw 4 0]) (fun _ => rfl) rfl (al1 rfl) ?_
          replace h := wr_some h
          generalize (sI Y38 4 0 3 ((gI Y38.1 4 0 3) + (nI 1))) = Y41 at h ⊢
          refine w_sg k95 1 (pc' := 98) (ls' := [(0, aR 4 0)]) (st' := []) (cs' := []) (fun _ => rfl) al0 ?_
          refine w_ls [(0, aR 4 0)] (lq_c rfl lq_n) ?_
          obtain rfl := Option.some.inj h
          exact ih37 _ (lpn_l hn36)
  have J49_0 : ∀ (Y : Sm), fn_95_J49 Y = some o → Wm 6 0 95 0 49 [(0, aR 4 0)] [] Y (Rt none o.2) nX := by
    intro Y h
    unfold fn_95_J49 at h
    refine w_sw k95 4 (Z := (sI Y 4 0 3 (gI Y.1 4 0 2))) (pc' := 57) (ls' := [(0, aR 4 0)]) (st' := []) (cs' := [allw 4 0]) (fun _ => rfl) rfl (al1 rfl) ?_
    replace h := wr_some h
    generalize (sI Y 4 0 3 (gI Y.1 4 0 2)) = Y12 at h ⊢
    refine w_sg k95 5 (pc' := 68) (ls' := [(0, aR 4 0)]) (st' := [aI (gI Y12.1 1 0 1), aI (gI Y12.1 4 0 2)]) (cs' := []) (fun _ => rfl) al0 ?_
    refine w_icmp_lt k95 rfl (fun c => ?_) (fun c => ?_)
    · replace h := if_t c h
      refine w_sg k95 4 (pc' := 87) (ls' := [(0, aR 4 0)]) (st' := [aI (gI Y12.1 4 0 2), aR 1 0]) (cs' := []) (fun _ => rfl) al0 ?_
      obtain ⟨v15, Y13, hv14, h⟩ := bd_some h
      refine w_cV1 k95 (sn_19 _ _ _ hv14) rfl (st := []) rfl ?_ (fun _ _ q => q.elim)
      refine w_if_eq k95 rfl (fun c => ?_) (fun c => ?_)
      · replace h := if_t c h
        refine w_sg k95 4 (pc' := 147) (ls' := [(0, aR 4 0)]) (st' := [aI (gI Y13.1 4 0 2), aR 1 0]) (cs' := []) (fun _ => rfl) al0 ?_
        obtain ⟨v18, Y16, hv17, h⟩ := bd_some h
        refine w_cV1 k95 (sn_20 _ _ _ hv17) rfl (st := []) rfl ?_ (fun _ _ q => q.elim)
        refine w_if_eq k95 rfl (fun c => ?_) (fun c => ?_)
        · replace h := if_t c h
          refine w_sg k95 5 (pc' := 208) (ls' := [(0, aR 4 0)]) (st' := [aI (gI Y16.1 4 0 2), aR 1 0, aR 4 0]) (cs' := []) (fun _ => rfl) al0 ?_
          obtain ⟨v21, Y19, hv20, h⟩ := bd_some h
          refine w_cV1 k95 (sn_18 _ _ _ hv20) rfl (st := [aR 4 0]) rfl ?_ (fun _ _ q => q.elim)
          refine w_sg k95 1 (pc' := 213) (ls' := [(0, aR 4 0)]) (st' := [aI (nI 59), aI v21, aR 4 0]) (cs' := []) (fun _ => rfl) al0 ?_
          refine w_icmp_ne k95 rfl (fun c => ?_) (fun c => ?_)
          · replace h := if_f c h
            refine w_sw k95 2 (Z := (sI Y19 4 0 1 (nI 4))) (pc' := 224) (ls' := [(0, aR 4 0)]) (st' := []) (cs' := [allw 4 0]) (fun _ => rfl) rfl (al1 rfl) ?_
            replace h := wr_some h
            generalize (sI Y19 4 0 1 (nI 4)) = Y22 at h ⊢
            refine w_sw k95 6 (Z := (sI Y22 4 0 3 ((gI Y22.1 4 0 3) + (nI 1)))) (pc' := 234) (ls' := [(0, aR 4 0)]) (st' := []) (cs' := [allw 4 0]) (fun _ => rfl) rfl (al1 rfl) ?_
            replace h := wr_some h
            generalize (sI Y22 4 0 3 ((gI Y22.1 4 0 3) + (nI 1))) = Y23 at h ⊢
            obtain rfl := Option.some.inj h
            exact w_return k95 ⟨rfl, rfl⟩
          · replace h := if_t c h
            refine w_sw k95 3 (Z := (sI Y19 4 0 1 (nI 3))) (pc' := 224) (ls' := [(0, aR 4 0)]) (st' := []) (cs' := [allw 4 0]) (fun _ => rfl) rfl (al1 rfl) ?_
            replace h := wr_some h
            generalize (sI Y19 4 0 1 (nI 3)) = Y24 at h ⊢
            refine w_sw k95 6 (Z := (sI Y24 4 0 3 ((gI Y24.1 4 0 3) + (nI 1)))) (pc' := 234) (ls' := [(0, aR 4 0)]) (st' := []) (cs' := [allw 4 0]) (fun _ => rfl) rfl (al1 rfl) ?_
            replace h := wr_some h
            generalize (sI Y24 4 0 3 ((gI Y24.1 4 0 3) + (nI 1))) = Y25 at h ⊢
            obtain rfl := Option.some.inj h
            exact w_return k95 ⟨rfl, rfl⟩
        · replace h := if_f c h
          refine w_sw k95 3 (Z := (sI Y16 4 0 1 (nI 2))) (pc' := 158) (ls' := [(0, aR 4 0)]) (st' := []) (cs' := [allw 4 0]) (fun _ => rfl) rfl (al1 rfl) ?_
          replace h := wr_some h
          generalize (sI Y16 4 0 1 (nI 2)) = Y26 at h ⊢
          refine w_ls [(0, aR 4 0)] (lq_c rfl lq_n) ?_
          exact L158_0 _ _ h
      · replace h := if_f c h
        refine w_sw k95 3 (Z := (sI Y13 4 0 1 (nI 1))) (pc' := 98) (ls' := [(0, aR 4 0)]) (st' := []) (cs' := [allw 4 0]) (fun _ => rfl) rfl (al1 rfl) ?_
        replace h := wr_some h
        generalize (sI Y13 4 0 1 (nI 1)) = Y34 at h ⊢
        refine w_ls [(0, aR 4 0)] (lq_c rfl lq_n) ?_
        exact L98_0 _ _ h
    · replace h := if_f c h
      refine w_sw k95 3 (Z := (sI Y12 4 0 1 (nI 0))) (pc' := 76) (ls' := [(0, aR 4 0)]) (st' := []) (cs' := [allw 4 0]) (fun _ => rfl) rfl (al1 rfl) ?_
      replace h := wr_some h
      generalize (sI Y12 4 0 1 (nI 0)) = Y42 at h ⊢
      refine w_sg k95 1 (pc' := 234) (ls' := [(0, aR 4 0)]) (st' := []) (cs' := []) (fun _ => rfl) al0 ?_
      obtain rfl := Option.some.inj h
      exact w_return k95 ⟨rfl, rfl⟩
  refine w_sw k95 4 (Z := (sI Y 4 0 2 (gI Y.1 4 0 3))) (pc' := 8) (ls' := [(0, aR 4 0)]) (st' := []) (cs' := [allw 4 0]) (fun _ => rfl) rfl (al1 rfl) ?_
  replace h := wr_some h
  generalize (sI Y 4 0 2 (gI Y.1 4 0 3)) = Y1 at h ⊢
  obtain ⟨e45, hl43, hx44⟩ := exd_some h
  refine w_ls [(0, aR 4 0)] (lq_c rfl lq_n) ?_
  refine L8_0 _ _ e45 hl43 (fun s9 hs9 => ?_) (fun r9 hr9 => ?_)
  · subst hs9
    replace h : fn_95_J49 s9 = some o := hx44
    refine w_ls [(0, aR 4 0)] (lq_c rfl lq_n) ?_
    exact J49_0 _ h
  · subst hr9
    exact hx44
set_option maxRecDepth 20000 in
set_option maxHeartbeats 4000000 in
/-- BallotBus$Tokens.open -/
theorem sn_94 {Y : Sm} (v : Unit) (Z : Sm) (h : fn_94 Y = some (v, Z)) : Mt 7 0 94 [aR 4 0] Y (Rt none Z) nX := by
  refine Mt_of [(0, aR 4 0)] ?_
  generalize ho : (v, Z) = o at h
  have hv9 : v = o.1 := congrArg Prod.fst ho
  have hZ9 : Z = o.2 := congrArg Prod.snd ho
  clear ho
  subst hv9 hZ9
  unfold fn_94 at h
  refine w_sw k94 3 (Z := (sI Y 4 0 3 (nI 0))) (pc' := 5) (ls' := [(0, aR 4 0)]) (st' := []) (cs' := [allw 4 0]) (fun _ => rfl) rfl (al1 rfl) ?_
  replace h := wr_some h
  generalize (sI Y 4 0 3 (nI 0)) = Y1 at h ⊢
  refine w_sg k94 1 (pc' := 6) (ls' := [(0, aR 4 0)]) (st' := [aR 4 0]) (cs' := []) (fun _ => rfl) al0 ?_
  obtain ⟨_, Y2, hv3, h⟩ := bd_some h
  refine w_cV0 k94 (sn_95  _ _ hv3) rfl (st := []) rfl ?_ (fun _ _ q => q.elim)
  obtain rfl := Option.some.inj h
  exact w_return k94 ⟨rfl, rfl⟩
set_option maxRecDepth 20000 in
set_option maxHeartbeats 4000000 in
/-- BallotBus$Tokens.size -/
theorem sn_96 {Y : Sm} (v : Int32) (Z : Sm) (h : fn_96 Y = some (v, Z)) : Mt 4 0 96 [aR 4 0] Y (Rt (some (aI v)) Z) nX := by
  refine Mt_of [(0, aR 4 0)] ?_
  generalize ho : (v, Z) = o at h
  have hv9 : v = o.1 := congrArg Prod.fst ho
  have hZ9 : Z = o.2 := congrArg Prod.snd ho
  clear ho
  subst hv9 hZ9
  unfold fn_96 at h
  refine w_sg k96 5 (pc' := 9) (ls' := [(0, aR 4 0)]) (st' := [aI ((gI Y.1 4 0 3) - (gI Y.1 4 0 2))]) (cs' := []) (fun _ => rfl) al0 ?_
  obtain rfl := Option.some.inj h
  exact w_ireturn k96 ⟨rfl, rfl⟩
set_option maxRecDepth 20000 in
set_option maxHeartbeats 4000000 in
/-- BallotBus$Tokens.is -/
theorem sn_97 (a1 : Nat) {Y : Sm} (v : Int32) (Z : Sm) (h : fn_97 a1 Y = some (v, Z)) : Mt 5 0 97 [aR 4 0, aS a1] Y (Rt (some (aI v)) Z) nX := by
  refine Mt_of [(0, aR 4 0), (1, aS a1)] ?_
  generalize ho : (v, Z) = o at h
  have hv9 : v = o.1 := congrArg Prod.fst ho
  have hZ9 : Z = o.2 := congrArg Prod.snd ho
  clear ho
  subst hv9 hZ9
  unfold fn_97 at h
  have L23_0 : ∀ (l1 : Nat) (n : Nat) (l2 : Int32) (Y : Sm), lp (fun s => fn_97_L23 l1 s.1 s.2) n (l2, Y) = some o → Wm 5 0 97 0 23 [(0, aR 4 0), (1, aS l1), (2, aI l2)] [] Y (Rt (some (aI o.1)) o.2) nX := by
    intro l1 n
    induction n with
    | zero => intro l2 Y h; cases h
    | succ n ih6 =>
      intro l2 Y h
      obtain ⟨q4, h, hn5⟩ := lp_succ h
      replace h : fn_97_L23 l1 l2 Y = some q4 := h
      unfold fn_97_L23 at h
      refine w_sg k97 3 (pc' := 28) (ls' := [(0, aR 4 0), (1, aS l1), (2, aI l2)]) (st' := [aI (nI (slen l1)), aI l2]) (cs' := []) (fun _ => rfl) al0 ?_
      refine w_icmp_ge k97 rfl (fun c => ?_) (fun c => ?_)
      · replace h := if_t c h
        refine w_sg k97 1 (pc' := 61) (ls' := [(0, aR 4 0), (1, aS l1), (2, aI l2)]) (st' := [aI (nI 1)]) (cs' := []) (fun _ => rfl) al0 ?_
        obtain rfl := Option.some.inj h
        obtain rfl := lpn_r hn5
        exact w_zreturn k97 (Or.inr rfl) ⟨rfl, rfl⟩
      · replace h := if_f c h
        refine w_sg k97 6 (pc' := 41) (ls' := [(0, aR 4 0), (1, aS l1), (2, aI l2)]) (st' := [aI ((gI Y.1 4 0 2) + l2), aR 1 0]) (cs' := []) (fun _ => rfl) al0 ?_
        obtain ⟨v9, Y7, hv8, h⟩ := bd_some h
        refine w_cV1 k97 (sn_18 _ _ _ hv8) rfl (st := []) rfl ?_ (fun _ _ q => q.elim)
        obtain ⟨hc10, h⟩ := ck_some h
        refine w_sg k97 3 (pc' := 49) (ls' := [(0, aR 4 0), (1, aS l1), (2, aI l2)]) (st' := [aI (schr l1 (ix l2)), aI v9]) (cs' := [vp_in l2 (slen l1)]) (fun _ => rfl) (al1 (vin hc10)) ?_
        refine w_icmp_eq k97 rfl (fun c => ?_) (fun c => ?_)
        · replace h := if_t c h
          refine w_sg k97 1 (pc' := 57) (ls' := [(0, aR 4 0), (1, aS l1), (2, aI (l2 + (nI 1)))]) (st' := []) (cs' := []) (fun _ => rfl) al0 ?_
          refine w_sg k97 1 (pc' := 23) (ls' := [(0, aR 4 0), (1, aS l1), (2, aI (l2 + (nI 1)))]) (st' := []) (cs' := []) (fun _ => rfl) al0 ?_
          refine w_ls [(0, aR 4 0), (1, aS l1), (2, aI (l2 + (nI 1)))] (lq_c rfl (lq_c rfl (lq_c rfl lq_n))) ?_
          obtain rfl := Option.some.inj h
          exact ih6 _ _ (lpn_l hn5)
        · replace h := if_f c h
          refine w_sg k97 1 (pc' := 53) (ls' := [(0, aR 4 0), (1, aS l1), (2, aI l2)]) (st' := [aI (nI 0)]) (cs' := []) (fun _ => rfl) al0 ?_
          obtain rfl := Option.some.inj h
          obtain rfl := lpn_r hn5
          exact w_zreturn k97 (Or.inl rfl) ⟨rfl, rfl⟩
  refine w_sg k97 3 (pc' := 5) (ls' := [(0, aR 4 0), (1, aS a1)]) (st' := [aI (nI 1), aI (gI Y.1 4 0 1)]) (cs' := []) (fun _ => rfl) al0 ?_
  refine w_icmp_ne k97 rfl (fun c => ?_) (fun c => ?_)
  · replace h := if_f c h
    refine w_sg k97 1 (pc' := 20) (ls' := [(0, aR 4 0), (1, aS a1)]) (st' := [aI (nI 0)]) (cs' := []) (fun _ => rfl) al0 ?_
    obtain rfl := Option.some.inj h
    exact w_zreturn k97 (Or.inl rfl) ⟨rfl, rfl⟩
  · replace h := if_t c h
    refine w_sg k97 1 (pc' := 9) (ls' := [(0, aR 4 0), (1, aS a1)]) (st' := [aR 4 0]) (cs' := []) (fun _ => rfl) al0 ?_
    obtain ⟨v3, Y1, hv2, h⟩ := bd_some h
    refine w_cV1 k97 (sn_96  _ _ hv2) rfl (st := []) rfl ?_ (fun _ _ q => q.elim)
    refine w_sg k97 2 (pc' := 16) (ls' := [(0, aR 4 0), (1, aS a1)]) (st' := [aI (nI (slen a1)), aI v3]) (cs' := []) (fun _ => rfl) al0 ?_
    refine w_icmp_eq k97 rfl (fun c => ?_) (fun c => ?_)
    · replace h := if_t c h
      refine w_sg k97 2 (pc' := 23) (ls' := [(0, aR 4 0), (1, aS a1), (2, aI (nI 0))]) (st' := []) (cs' := []) (fun _ => rfl) al0 ?_
      refine w_ls [(0, aR 4 0), (1, aS a1), (2, aI (nI 0))] (lq_c rfl (lq_c rfl (lq_c rfl lq_n))) ?_
      exact L23_0 _ _ _ _ h
    · replace h := if_f c h
      refine w_sg k97 1 (pc' := 20) (ls' := [(0, aR 4 0), (1, aS a1)]) (st' := [aI (nI 0)]) (cs' := []) (fun _ => rfl) al0 ?_
      obtain rfl := Option.some.inj h
      exact w_zreturn k97 (Or.inl rfl) ⟨rfl, rfl⟩
set_option maxRecDepth 20000 in
set_option maxHeartbeats 4000000 in
/-- BallotBus$SetupReader.fail -/
theorem sn_60 (a1 : Int32) {Y : Sm} (v : Int32) (Z : Sm) (h : fn_60 a1 Y = some (v, Z)) : Mt 4 0 60 [aR 3 0, aI a1] Y (Rt (some (aI v)) Z) nX := by
  refine Mt_of [(0, aR 3 0), (1, aI a1)] ?_
  generalize ho : (v, Z) = o at h
  have hv9 : v = o.1 := congrArg Prod.fst ho
  have hZ9 : Z = o.2 := congrArg Prod.snd ho
  clear ho
  subst hv9 hZ9
  unfold fn_60 at h
  refine w_sw k60 3 (Z := (sI Y 3 0 3 a1)) (pc' := 5) (ls' := [(0, aR 3 0), (1, aI a1)]) (st' := []) (cs' := [allw 3 0]) (fun _ => rfl) rfl (al1 rfl) ?_
  replace h := wr_some h
  generalize (sI Y 3 0 3 a1) = Y1 at h ⊢
  refine w_sw k60 5 (Z := (sI Y1 3 0 4 (gI Y1.1 4 0 2))) (pc' := 16) (ls' := [(0, aR 3 0), (1, aI a1)]) (st' := []) (cs' := [allw 3 0]) (fun _ => rfl) rfl (al1 rfl) ?_
  replace h := wr_some h
  generalize (sI Y1 3 0 4 (gI Y1.1 4 0 2)) = Y2 at h ⊢
  refine w_sg k60 1 (pc' := 17) (ls' := [(0, aR 3 0), (1, aI a1)]) (st' := [aI (nI 0)]) (cs' := []) (fun _ => rfl) al0 ?_
  obtain rfl := Option.some.inj h
  exact w_zreturn k60 (Or.inl rfl) ⟨rfl, rfl⟩
set_option maxRecDepth 20000 in
set_option maxHeartbeats 4000000 in
/-- BallotBus$Tokens.isNumber -/
theorem sn_101 {Y : Sm} (v : Int32) (Z : Sm) (h : fn_101 Y = some (v, Z)) : Mt 5 0 101 [aR 4 0] Y (Rt (some (aI v)) Z) nX := by
  refine Mt_of [(0, aR 4 0)] ?_
  generalize ho : (v, Z) = o at h
  have hv9 : v = o.1 := congrArg Prod.fst ho
  have hZ9 : Z = o.2 := congrArg Prod.snd ho
  clear ho
  subst hv9 hZ9
  unfold fn_101 at h
  refine w_sg k101 3 (pc' := 5) (ls' := [(0, aR 4 0)]) (st' := [aI (nI 2), aI (gI Y.1 4 0 1)]) (cs' := []) (fun _ => rfl) al0 ?_
  refine w_icmp_ne k101 rfl (fun c => ?_) (fun c => ?_)
  · replace h := if_f c h
    refine w_sg k101 1 (pc' := 21) (ls' := [(0, aR 4 0)]) (st' := [aI (nI 0)]) (cs' := []) (fun _ => rfl) al0 ?_
    obtain rfl := Option.some.inj h
    exact w_zreturn k101 (Or.inl rfl) ⟨rfl, rfl⟩
  · replace h := if_t c h
    refine w_sg k101 1 (pc' := 9) (ls' := [(0, aR 4 0)]) (st' := [aR 4 0]) (cs' := []) (fun _ => rfl) al0 ?_
    obtain ⟨v3, Y1, hv2, h⟩ := bd_some h
    refine w_cV1 k101 (sn_96  _ _ hv2) rfl (st := []) rfl ?_ (fun _ _ q => q.elim)
    refine w_sg k101 1 (pc' := 13) (ls' := [(0, aR 4 0)]) (st' := [aI (nI 3), aI v3]) (cs' := []) (fun _ => rfl) al0 ?_
    refine w_icmp_gt k101 rfl (fun c => ?_) (fun c => ?_)
    · replace h := if_t c h
      refine w_sg k101 1 (pc' := 21) (ls' := [(0, aR 4 0)]) (st' := [aI (nI 0)]) (cs' := []) (fun _ => rfl) al0 ?_
      obtain rfl := Option.some.inj h
      exact w_zreturn k101 (Or.inl rfl) ⟨rfl, rfl⟩
    · replace h := if_f c h
      refine w_sg k101 2 (pc' := 21) (ls' := [(0, aR 4 0)]) (st' := [aI (nI 1)]) (cs' := []) (fun _ => rfl) al0 ?_
      obtain rfl := Option.some.inj h
      exact w_zreturn k101 (Or.inr rfl) ⟨rfl, rfl⟩
set_option maxRecDepth 20000 in
set_option maxHeartbeats 4000000 in
/-- BallotBus$Tokens.number -/
theorem sn_102 {Y : Sm} (v : Int32) (Z : Sm) (h : fn_102 Y = some (v, Z)) : Mt 5 0 102 [aR 4 0] Y (Rt (some (aI v)) Z) nX := by
  refine Mt_of [(0, aR 4 0)] ?_
  generalize ho : (v, Z) = o at h
  have hv9 : v = o.1 := congrArg Prod.fst ho
  have hZ9 : Z = o.2 := congrArg Prod.snd ho
  clear ho
  subst hv9 hZ9
  unfold fn_102 at h
  have L7_0 : ∀ (n : Nat) (l1 : Int32) (l2 : Int32) (Y : Sm), lp (fun s => fn_102_L7 s.1 s.2.1 s.2.2) n (l1, l2, Y) = some o → Wm 5 0 102 0 7 [(0, aR 4 0), (1, aI l1), (2, aI l2)] [] Y (Rt (some (aI o.1)) o.2) nX := by
    intro n
    induction n with
    | zero => intro l1 l2 Y h; cases h
    | succ n ih3 =>
      intro l1 l2 Y h
      obtain ⟨q1, h, hn2⟩ := lp_succ h
      replace h : fn_102_L7 l1 l2 Y = some q1 := h
      unfold fn_102_L7 at h
      refine w_sg k102 3 (pc' := 12) (ls' := [(0, aR 4 0), (1, aI l1), (2, aI l2)]) (st' := [aI (gI Y.1 4 0 3), aI l2]) (cs' := []) (fun _ => rfl) al0 ?_
      refine w_icmp_ge k102 rfl (fun c => ?_) (fun c => ?_)
      · replace h := if_t c h
        refine w_sg k102 1 (pc' := 39) (ls' := [(0, aR 4 0), (1, aI l1), (2, aI l2)]) (st' := [aI l1]) (cs' := []) (fun _ => rfl) al0 ?_
        obtain rfl := Option.some.inj h
        obtain rfl := lpn_r hn2
        exact w_ireturn k102 ⟨rfl, rfl⟩
      · replace h := if_f c h
        refine w_sg k102 6 (pc' := 24) (ls' := [(0, aR 4 0), (1, aI l1), (2, aI l2)]) (st' := [aI l2, aR 1 0, aI (l1 * (nI 10))]) (cs' := []) (fun _ => rfl) al0 ?_
        obtain ⟨v6, Y4, hv5, h⟩ := bd_some h
        refine w_cV1 k102 (sn_18 _ _ _ hv5) rfl (st := [aI (l1 * (nI 10))]) rfl ?_ (fun _ _ q => q.elim)
        refine w_sg k102 4 (pc' := 32) (ls' := [(0, aR 4 0), (1, aI (((l1 * (nI 10)) + v6) - (nI 48))), (2, aI l2)]) (st' := []) (cs' := []) (fun _ => rfl) al0 ?_
        refine w_sg k102 1 (pc' := 35) (ls' := [(0, aR 4 0), (1, aI (((l1 * (nI 10)) + v6) - (nI 48))), (2, aI (l2 + (nI 1)))]) (st' := []) (cs' := []) (fun _ => rfl) al0 ?_
        refine w_sg k102 1 (pc' := 7) (ls' := [(0, aR 4 0), (1, aI (((l1 * (nI 10)) + v6) - (nI 48))), (2, aI (l2 + (nI 1)))]) (st' := []) (cs' := []) (fun _ => rfl) al0 ?_
        refine w_ls [(0, aR 4 0), (1, aI (((l1 * (nI 10)) + v6) - (nI 48))), (2, aI (l2 + (nI 1)))] (lq_c rfl (lq_c rfl (lq_c rfl lq_n))) ?_
        obtain rfl := Option.some.inj h
        exact ih3 _ _ _ (lpn_l hn2)
  refine w_sg k102 2 (pc' := 2) (ls' := [(0, aR 4 0), (1, aI (nI 0))]) (st' := []) (cs' := []) (fun _ => rfl) al0 ?_
  refine w_sg k102 3 (pc' := 7) (ls' := [(0, aR 4 0), (1, aI (nI 0)), (2, aI (gI Y.1 4 0 2))]) (st' := []) (cs' := []) (fun _ => rfl) al0 ?_
  refine w_ls [(0, aR 4 0), (1, aI (nI 0)), (2, aI (gI Y.1 4 0 2))] (lq_c rfl (lq_c rfl (lq_c rfl lq_n))) ?_
  exact L7_0 _ _ _ _ h
set_option maxRecDepth 20000 in
set_option maxHeartbeats 4000000 in
/-- BallotBus$SetupReader.readNumber -/
theorem sn_69 (a1 : Int32) (a2 : Int32) {Y : Sm} (v : Int32) (Z : Sm) (h : fn_69 a1 a2 Y = some (v, Z)) : Mt 7 0 69 [aR 3 0, aI a1, aI a2] Y (Rt (some (aI v)) Z) nX := by
  refine Mt_of [(0, aR 3 0), (1, aI a1), (2, aI a2)] ?_
  generalize ho : (v, Z) = o at h
  have hv9 : v = o.1 := congrArg Prod.fst ho
  have hZ9 : Z = o.2 := congrArg Prod.snd ho
  clear ho
  subst hv9 hZ9
  unfold fn_69 at h
  refine w_sg k69 2 (pc' := 4) (ls' := [(0, aR 3 0), (1, aI a1), (2, aI a2)]) (st' := [aR 4 0]) (cs' := []) (fun _ => rfl) al0 ?_
  obtain ⟨v3, Y1, hv2, h⟩ := bd_some h
  refine w_cV1 k69 (sn_101  _ _ hv2) rfl (st := []) rfl ?_ (fun _ _ q => q.elim)
  refine w_if_ne k69 rfl (fun c => ?_) (fun c => ?_)
  · replace h := if_f c h
    refine w_sg k69 2 (pc' := 22) (ls' := [(0, aR 3 0), (1, aI a1), (2, aI a2)]) (st' := [aR 4 0]) (cs' := []) (fun _ => rfl) al0 ?_
    obtain ⟨v6, Y4, hv5, h⟩ := bd_some h
    refine w_cV1 k69 (sn_102  _ _ hv5) rfl (st := []) rfl ?_ (fun _ _ q => q.elim)
    refine w_sg k69 1 (pc' := 26) (ls' := [(0, aR 3 0), (1, aI a1), (2, aI a2), (3, aI v6)]) (st' := []) (cs' := []) (fun _ => rfl) al0 ?_
    refine w_sg k69 2 (pc' := 28) (ls' := [(0, aR 3 0), (1, aI a1), (2, aI a2), (3, aI v6)]) (st' := [aI a1, aI v6]) (cs' := []) (fun _ => rfl) al0 ?_
    refine w_icmp_lt k69 rfl (fun c => ?_) (fun c => ?_)
    · replace h := if_t c h
      refine w_sg k69 2 (pc' := 38) (ls' := [(0, aR 3 0), (1, aI a1), (2, aI a2), (3, aI v6)]) (st' := [aI (nI 2), aR 3 0]) (cs' := []) (fun _ => rfl) al0 ?_
      obtain ⟨v9, Y7, hv8, h⟩ := bd_some h
      refine w_cV1 k69 (sn_60 _ _ _ hv8) rfl (st := []) rfl ?_ (fun _ _ q => q.elim)
      refine w_sg k69 2 (pc' := 43) (ls' := [(0, aR 3 0), (1, aI a1), (2, aI a2), (3, aI v6)]) (st' := [aI (-1 : Int32)]) (cs' := []) (fun _ => rfl) al0 ?_
      obtain rfl := Option.some.inj h
      exact w_ireturn k69 ⟨rfl, rfl⟩
    · replace h := if_f c h
      refine w_sg k69 2 (pc' := 33) (ls' := [(0, aR 3 0), (1, aI a1), (2, aI a2), (3, aI v6)]) (st' := [aI a2, aI v6]) (cs' := []) (fun _ => rfl) al0 ?_
      refine w_icmp_le k69 rfl (fun c => ?_) (fun c => ?_)
      · replace h := if_t c h
        refine w_sg k69 2 (pc' := 48) (ls' := [(0, aR 3 0), (1, aI a1), (2, aI a2), (3, aI v6)]) (st' := [aR 4 0]) (cs' := []) (fun _ => rfl) al0 ?_
        obtain ⟨_, Y10, hv11, h⟩ := bd_some h
        refine w_cV0 k69 (sn_95  _ _ hv11) rfl (st := []) rfl ?_ (fun _ _ q => q.elim)
        refine w_sg k69 1 (pc' := 52) (ls' := [(0, aR 3 0), (1, aI a1), (2, aI a2), (3, aI v6)]) (st' := [aI v6]) (cs' := []) (fun _ => rfl) al0 ?_
        obtain rfl := Option.some.inj h
        exact w_ireturn k69 ⟨rfl, rfl⟩
      · replace h := if_f c h
        refine w_sg k69 2 (pc' := 38) (ls' := [(0, aR 3 0), (1, aI a1), (2, aI a2), (3, aI v6)]) (st' := [aI (nI 2), aR 3 0]) (cs' := []) (fun _ => rfl) al0 ?_
        obtain ⟨v14, Y12, hv13, h⟩ := bd_some h
        refine w_cV1 k69 (sn_60 _ _ _ hv13) rfl (st := []) rfl ?_ (fun _ _ q => q.elim)
        refine w_sg k69 2 (pc' := 43) (ls' := [(0, aR 3 0), (1, aI a1), (2, aI a2), (3, aI v6)]) (st' := [aI (-1 : Int32)]) (cs' := []) (fun _ => rfl) al0 ?_
        obtain rfl := Option.some.inj h
        exact w_ireturn k69 ⟨rfl, rfl⟩
  · replace h := if_t c h
    refine w_sg k69 2 (pc' := 12) (ls' := [(0, aR 3 0), (1, aI a1), (2, aI a2)]) (st' := [aI (nI 1), aR 3 0]) (cs' := []) (fun _ => rfl) al0 ?_
    obtain ⟨v17, Y15, hv16, h⟩ := bd_some h
    refine w_cV1 k69 (sn_60 _ _ _ hv16) rfl (st := []) rfl ?_ (fun _ _ q => q.elim)
    refine w_sg k69 2 (pc' := 17) (ls' := [(0, aR 3 0), (1, aI a1), (2, aI a2)]) (st' := [aI (-1 : Int32)]) (cs' := []) (fun _ => rfl) al0 ?_
    obtain rfl := Option.some.inj h
    exact w_ireturn k69 ⟨rfl, rfl⟩
set_option maxRecDepth 20000 in
set_option maxHeartbeats 4000000 in
/-- BallotBus$SetupReader.readSetting -/
theorem sn_68 (a1 : Int32) (a2 : Int32) (a3 : Int32) {Y : Sm} (v : Int32) (Z : Sm) (h : fn_68 a1 a2 a3 Y = some (v, Z)) : Mt 8 0 68 [aR 3 0, aI a1, aI a2, aI a3] Y (Rt (some (aI v)) Z) nX := by
  refine Mt_of [(0, aR 3 0), (1, aI a1), (2, aI a2), (3, aI a3)] ?_
  generalize ho : (v, Z) = o at h
  have hv9 : v = o.1 := congrArg Prod.fst ho
  have hZ9 : Z = o.2 := congrArg Prod.snd ho
  clear ho
  subst hv9 hZ9
  unfold fn_68 at h
  refine w_sg k68 4 (pc' := 5) (ls' := [(0, aR 3 0), (1, aI a1), (2, aI a2), (3, aI a3), (4, aI ((nI 1) <<< (a1 &&& 31)))]) (st' := []) (cs' := []) (fun _ => rfl) al0 ?_
  refine w_sg k68 4 (pc' := 12) (ls' := [(0, aR 3 0), (1, aI a1), (2, aI a2), (3, aI a3), (4, aI ((nI 1) <<< (a1 &&& 31)))]) (st' := [aI ((gI Y.1 3 0 2) &&& ((nI 1) <<< (a1 &&& 31)))]) (cs' := []) (fun _ => rfl) al0 ?_
  refine w_if_eq k68 rfl (fun c => ?_) (fun c => ?_)
  · replace h := if_t c h
    refine w_sw k68 6 (Z := (sI Y 3 0 2 ((gI Y.1 3 0 2) ||| ((nI 1) <<< (a1 &&& 31))))) (pc' := 32) (ls' := [(0, aR 3 0), (1, aI a1), (2, aI a2), (3, aI a3), (4, aI ((nI 1) <<< (a1 &&& 31)))]) (st' := []) (cs' := [allw 3 0]) (fun _ => rfl) rfl (al1 rfl) ?_
    replace h := wr_some h
    generalize (sI Y 3 0 2 ((gI Y.1 3 0 2) ||| ((nI 1) <<< (a1 &&& 31)))) = Y1 at h ⊢
    refine w_sg k68 2 (pc' := 36) (ls' := [(0, aR 3 0), (1, aI a1), (2, aI a2), (3, aI a3), (4, aI ((nI 1) <<< (a1 &&& 31)))]) (st' := [aR 4 0]) (cs' := []) (fun _ => rfl) al0 ?_
    obtain ⟨_, Y2, hv3, h⟩ := bd_some h
    refine w_cV0 k68 (sn_95  _ _ hv3) rfl (st := []) rfl ?_ (fun _ _ q => q.elim)
    refine w_sg k68 3 (pc' := 42) (ls' := [(0, aR 3 0), (1, aI a1), (2, aI a2), (3, aI a3), (4, aI ((nI 1) <<< (a1 &&& 31)))]) (st' := [aI a3, aI a2, aR 3 0]) (cs' := []) (fun _ => rfl) al0 ?_
    obtain ⟨v6, Y4, hv5, h⟩ := bd_some h
    refine w_cV1 k68 (sn_69 _ _ _ _ hv5) rfl (st := []) rfl ?_ (fun _ _ q => q.elim)
    refine w_sg k68 1 (pc' := 47) (ls' := [(0, aR 3 0), (1, aI a1), (2, aI a2), (3, aI a3), (4, aI ((nI 1) <<< (a1 &&& 31))), (5, aI v6)]) (st' := []) (cs' := []) (fun _ => rfl) al0 ?_
    refine w_sg k68 2 (pc' := 51) (ls' := [(0, aR 3 0), (1, aI a1), (2, aI a2), (3, aI a3), (4, aI ((nI 1) <<< (a1 &&& 31))), (5, aI v6)]) (st' := [aI (gI Y4.1 3 0 3)]) (cs' := []) (fun _ => rfl) al0 ?_
    refine w_if_ne k68 rfl (fun c => ?_) (fun c => ?_)
    · replace h := if_f c h
      refine w_sg k68 2 (pc' := 78) (ls' := [(0, aR 3 0), (1, aI a1), (2, aI a2), (3, aI a3), (4, aI ((nI 1) <<< (a1 &&& 31))), (5, aI v6)]) (st' := [aI (gI Y4.1 3 0 3)]) (cs' := []) (fun _ => rfl) al0 ?_
      refine w_if_ne k68 rfl (fun c => ?_) (fun c => ?_)
      · replace h := if_f c h
        refine w_sg k68 1 (pc' := 86) (ls' := [(0, aR 3 0), (1, aI a1), (2, aI a2), (3, aI a3), (4, aI ((nI 1) <<< (a1 &&& 31))), (5, aI v6)]) (st' := [aI (nI 0)]) (cs' := []) (fun _ => rfl) al0 ?_
        obtain rfl := Option.some.inj h
        exact w_zreturn k68 (Or.inl rfl) ⟨rfl, rfl⟩
      · replace h := if_t c h
        refine w_sg k68 2 (pc' := 86) (ls' := [(0, aR 3 0), (1, aI a1), (2, aI a2), (3, aI a3), (4, aI ((nI 1) <<< (a1 &&& 31))), (5, aI v6)]) (st' := [aI (nI 1)]) (cs' := []) (fun _ => rfl) al0 ?_
        obtain rfl := Option.some.inj h
        exact w_zreturn k68 (Or.inr rfl) ⟨rfl, rfl⟩
    · replace h := if_t c h
      refine w_sg k68 1 (pc' := 55) (ls' := [(0, aR 3 0), (1, aI a1), (2, aI a2), (3, aI a3), (4, aI ((nI 1) <<< (a1 &&& 31))), (5, aI v6)]) (st' := [aI a1]) (cs' := []) (fun _ => rfl) al0 ?_
      refine w_if_lt k68 rfl (fun c => ?_) (fun c => ?_)
      · replace h := if_t c h
        refine w_sg k68 2 (pc' := 78) (ls' := [(0, aR 3 0), (1, aI a1), (2, aI a2), (3, aI a3), (4, aI ((nI 1) <<< (a1 &&& 31))), (5, aI v6)]) (st' := [aI (gI Y4.1 3 0 3)]) (cs' := []) (fun _ => rfl) al0 ?_
        refine w_if_ne k68 rfl (fun c => ?_) (fun c => ?_)
        · replace h := if_f c h
          refine w_sg k68 1 (pc' := 86) (ls' := [(0, aR 3 0), (1, aI a1), (2, aI a2), (3, aI a3), (4, aI ((nI 1) <<< (a1 &&& 31))), (5, aI v6)]) (st' := [aI (nI 0)]) (cs' := []) (fun _ => rfl) al0 ?_
          obtain rfl := Option.some.inj h
          exact w_zreturn k68 (Or.inl rfl) ⟨rfl, rfl⟩
        · replace h := if_t c h
          refine w_sg k68 2 (pc' := 86) (ls' := [(0, aR 3 0), (1, aI a1), (2, aI a2), (3, aI a3), (4, aI ((nI 1) <<< (a1 &&& 31))), (5, aI v6)]) (st' := [aI (nI 1)]) (cs' := []) (fun _ => rfl) al0 ?_
          obtain rfl := Option.some.inj h
          exact w_zreturn k68 (Or.inr rfl) ⟨rfl, rfl⟩
      · replace h := if_f c h
        refine w_sg k68 2 (pc' := 60) (ls' := [(0, aR 3 0), (1, aI a1), (2, aI a2), (3, aI a3), (4, aI ((nI 1) <<< (a1 &&& 31))), (5, aI v6)]) (st' := [aI (nI 5), aI a1]) (cs' := []) (fun _ => rfl) al0 ?_
        refine w_icmp_ge k68 rfl (fun c => ?_) (fun c => ?_)
        · replace h := if_t c h
          refine w_sg k68 2 (pc' := 78) (ls' := [(0, aR 3 0), (1, aI a1), (2, aI a2), (3, aI a3), (4, aI ((nI 1) <<< (a1 &&& 31))), (5, aI v6)]) (st' := [aI (gI Y4.1 3 0 3)]) (cs' := []) (fun _ => rfl) al0 ?_
          refine w_if_ne k68 rfl (fun c => ?_) (fun c => ?_)
          · replace h := if_f c h
            refine w_sg k68 1 (pc' := 86) (ls' := [(0, aR 3 0), (1, aI a1), (2, aI a2), (3, aI a3), (4, aI ((nI 1) <<< (a1 &&& 31))), (5, aI v6)]) (st' := [aI (nI 0)]) (cs' := []) (fun _ => rfl) al0 ?_
            obtain rfl := Option.some.inj h
            exact w_zreturn k68 (Or.inl rfl) ⟨rfl, rfl⟩
          · replace h := if_t c h
            refine w_sg k68 2 (pc' := 86) (ls' := [(0, aR 3 0), (1, aI a1), (2, aI a2), (3, aI a3), (4, aI ((nI 1) <<< (a1 &&& 31))), (5, aI v6)]) (st' := [aI (nI 1)]) (cs' := []) (fun _ => rfl) al0 ?_
            obtain rfl := Option.some.inj h
            exact w_zreturn k68 (Or.inr rfl) ⟨rfl, rfl⟩
        · replace h := if_f c h
          obtain ⟨hc7, h⟩ := ck_some h
          refine w_sw k68 6 (Z := (sI Y4 11 (Y4.2 2) (ix a1) v6)) (pc' := 74) (ls' := [(0, aR 3 0), (1, aI a1), (2, aI a2), (3, aI a3), (4, aI ((nI 1) <<< (a1 &&& 31))), (5, aI v6)]) (st' := []) (cs' := [vp_in a1 5, allw 11 (Y4.2 2)]) (fun _ => rfl) rfl (al2 (vin hc7) (al1 rfl)) ?_
          replace h := wr_some h
          generalize (sI Y4 11 (Y4.2 2) (ix a1) v6) = Y8 at h ⊢
          refine w_sg k68 2 (pc' := 78) (ls' := [(0, aR 3 0), (1, aI a1), (2, aI a2), (3, aI a3), (4, aI ((nI 1) <<< (a1 &&& 31))), (5, aI v6)]) (st' := [aI (gI Y8.1 3 0 3)]) (cs' := []) (fun _ => rfl) al0 ?_
          refine w_if_ne k68 rfl (fun c => ?_) (fun c => ?_)
          · replace h := if_f c h
            refine w_sg k68 1 (pc' := 86) (ls' := [(0, aR 3 0), (1, aI a1), (2, aI a2), (3, aI a3), (4, aI ((nI 1) <<< (a1 &&& 31))), (5, aI v6)]) (st' := [aI (nI 0)]) (cs' := []) (fun _ => rfl) al0 ?_
            obtain rfl := Option.some.inj h
            exact w_zreturn k68 (Or.inl rfl) ⟨rfl, rfl⟩
          · replace h := if_t c h
            refine w_sg k68 2 (pc' := 86) (ls' := [(0, aR 3 0), (1, aI a1), (2, aI a2), (3, aI a3), (4, aI ((nI 1) <<< (a1 &&& 31))), (5, aI v6)]) (st' := [aI (nI 1)]) (cs' := []) (fun _ => rfl) al0 ?_
            obtain rfl := Option.some.inj h
            exact w_zreturn k68 (Or.inr rfl) ⟨rfl, rfl⟩
  · replace h := if_f c h
    refine w_sg k68 2 (pc' := 17) (ls' := [(0, aR 3 0), (1, aI a1), (2, aI a2), (3, aI a3), (4, aI ((nI 1) <<< (a1 &&& 31)))]) (st' := [aI (nI 3), aR 3 0]) (cs' := []) (fun _ => rfl) al0 ?_
    obtain ⟨v11, Y9, hv10, h⟩ := bd_some h
    refine w_cV1 k68 (sn_60 _ _ _ hv10) rfl (st := []) rfl ?_ (fun _ _ q => q.elim)
    obtain ⟨hc12, h⟩ := ck_some h
    obtain rfl := Option.some.inj h
    exact w_zreturn k68 (bz_or hc12) ⟨rfl, rfl⟩
set_option maxRecDepth 20000 in
set_option maxHeartbeats 4000000 in
/-- BallotBus$SetupReader.readTally -/
theorem sn_67 {Y : Sm} (v : Int32) (Z : Sm) (h : fn_67 Y = some (v, Z)) : Mt 7 0 67 [aR 3 0] Y (Rt (some (aI v)) Z) nX := by
  refine Mt_of [(0, aR 3 0)] ?_
  generalize ho : (v, Z) = o at h
  have hv9 : v = o.1 := congrArg Prod.fst ho
  have hZ9 : Z = o.2 := congrArg Prod.snd ho
  clear ho
  subst hv9 hZ9
  unfold fn_67 at h
  refine w_sg k67 4 (pc' := 7) (ls' := [(0, aR 3 0)]) (st' := [aI ((gI Y.1 3 0 2) &&& (nI 32))]) (cs' := []) (fun _ => rfl) al0 ?_
  refine w_if_eq k67 rfl (fun c => ?_) (fun c => ?_)
  · replace h := if_t c h
    refine w_sw k67 6 (Z := (sI Y 3 0 2 ((gI Y.1 3 0 2) ||| (nI 32)))) (pc' := 27) (ls' := [(0, aR 3 0)]) (st' := []) (cs' := [allw 3 0]) (fun _ => rfl) rfl (al1 rfl) ?_
    replace h := wr_some h
    generalize (sI Y 3 0 2 ((gI Y.1 3 0 2) ||| (nI 32))) = Y1 at h ⊢
    refine w_sg k67 2 (pc' := 31) (ls' := [(0, aR 3 0)]) (st' := [aR 4 0]) (cs' := []) (fun _ => rfl) al0 ?_
    obtain ⟨_, Y2, hv3, h⟩ := bd_some h
    refine w_cV0 k67 (sn_95  _ _ hv3) rfl (st := []) rfl ?_ (fun _ _ q => q.elim)
    refine w_sg k67 3 (pc' := 40) (ls' := [(0, aR 3 0)]) (st' := [aS 8, aR 4 0]) (cs' := []) (fun _ => rfl) al0 ?_
    obtain ⟨v6, Y4, hv5, h⟩ := bd_some h
    refine w_cV1 k67 (sn_97 _ _ _ hv5) rfl (st := []) rfl ?_ (fun _ _ q => q.elim)
    refine w_if_eq k67 rfl (fun c => ?_) (fun c => ?_)
    · replace h := if_t c h
      refine w_sg k67 3 (pc' := 63) (ls' := [(0, aR 3 0)]) (st' := [aS 9, aR 4 0]) (cs' := []) (fun _ => rfl) al0 ?_
      obtain ⟨v9, Y7, hv8, h⟩ := bd_some h
      refine w_cV1 k67 (sn_97 _ _ _ hv8) rfl (st := []) rfl ?_ (fun _ _ q => q.elim)
      refine w_if_eq k67 rfl (fun c => ?_) (fun c => ?_)
      · replace h := if_t c h
        refine w_sg k67 3 (pc' := 86) (ls' := [(0, aR 3 0)]) (st' := [aS 10, aR 4 0]) (cs' := []) (fun _ => rfl) al0 ?_
        obtain ⟨v12, Y10, hv11, h⟩ := bd_some h
        refine w_cV1 k67 (sn_97 _ _ _ hv11) rfl (st := []) rfl ?_ (fun _ _ q => q.elim)
        refine w_if_eq k67 rfl (fun c => ?_) (fun c => ?_)
        · replace h := if_t c h
          refine w_sg k67 2 (pc' := 105) (ls' := [(0, aR 3 0)]) (st' := [aI (nI 1), aR 3 0]) (cs' := []) (fun _ => rfl) al0 ?_
          obtain ⟨v15, Y13, hv14, h⟩ := bd_some h
          refine w_cV1 k67 (sn_60 _ _ _ hv14) rfl (st := []) rfl ?_ (fun _ _ q => q.elim)
          obtain ⟨hc16, h⟩ := ck_some h
          obtain rfl := Option.some.inj h
          exact w_zreturn k67 (bz_or hc16) ⟨rfl, rfl⟩
        · replace h := if_f c h
          refine w_sw k67 4 (Z := (sI Y10 5 (Y10.2 2) 7 (nI 2))) (pc' := 100) (ls' := [(0, aR 3 0)]) (st' := []) (cs' := [allw 5 (Y10.2 2)]) (fun _ => rfl) rfl (al1 rfl) ?_
          replace h := wr_some h
          generalize (sI Y10 5 (Y10.2 2) 7 (nI 2)) = Y17 at h ⊢
          refine w_sg k67 3 (pc' := 113) (ls' := [(0, aR 3 0)]) (st' := [aR 4 0]) (cs' := []) (fun _ => rfl) al0 ?_
          obtain ⟨_, Y18, hv19, h⟩ := bd_some h
          refine w_cV0 k67 (sn_95  _ _ hv19) rfl (st := []) rfl ?_ (fun _ _ q => q.elim)
          refine w_sg k67 1 (pc' := 117) (ls' := [(0, aR 3 0)]) (st' := [aI (nI 1)]) (cs' := []) (fun _ => rfl) al0 ?_
          obtain rfl := Option.some.inj h
          exact w_zreturn k67 (Or.inr rfl) ⟨rfl, rfl⟩
      · replace h := if_f c h
        refine w_sw k67 4 (Z := (sI Y7 5 (Y7.2 2) 7 (nI 1))) (pc' := 77) (ls' := [(0, aR 3 0)]) (st' := []) (cs' := [allw 5 (Y7.2 2)]) (fun _ => rfl) rfl (al1 rfl) ?_
        replace h := wr_some h
        generalize (sI Y7 5 (Y7.2 2) 7 (nI 1)) = Y20 at h ⊢
        refine w_sg k67 3 (pc' := 113) (ls' := [(0, aR 3 0)]) (st' := [aR 4 0]) (cs' := []) (fun _ => rfl) al0 ?_
        obtain ⟨_, Y21, hv22, h⟩ := bd_some h
        refine w_cV0 k67 (sn_95  _ _ hv22) rfl (st := []) rfl ?_ (fun _ _ q => q.elim)
        refine w_sg k67 1 (pc' := 117) (ls' := [(0, aR 3 0)]) (st' := [aI (nI 1)]) (cs' := []) (fun _ => rfl) al0 ?_
        obtain rfl := Option.some.inj h
        exact w_zreturn k67 (Or.inr rfl) ⟨rfl, rfl⟩
    · replace h := if_f c h
      refine w_sw k67 4 (Z := (sI Y4 5 (Y4.2 2) 7 (nI 0))) (pc' := 54) (ls' := [(0, aR 3 0)]) (st' := []) (cs' := [allw 5 (Y4.2 2)]) (fun _ => rfl) rfl (al1 rfl) ?_
      replace h := wr_some h
      generalize (sI Y4 5 (Y4.2 2) 7 (nI 0)) = Y23 at h ⊢
      refine w_sg k67 3 (pc' := 113) (ls' := [(0, aR 3 0)]) (st' := [aR 4 0]) (cs' := []) (fun _ => rfl) al0 ?_
      obtain ⟨_, Y24, hv25, h⟩ := bd_some h
      refine w_cV0 k67 (sn_95  _ _ hv25) rfl (st := []) rfl ?_ (fun _ _ q => q.elim)
      refine w_sg k67 1 (pc' := 117) (ls' := [(0, aR 3 0)]) (st' := [aI (nI 1)]) (cs' := []) (fun _ => rfl) al0 ?_
      obtain rfl := Option.some.inj h
      exact w_zreturn k67 (Or.inr rfl) ⟨rfl, rfl⟩
  · replace h := if_f c h
    refine w_sg k67 2 (pc' := 12) (ls' := [(0, aR 3 0)]) (st' := [aI (nI 3), aR 3 0]) (cs' := []) (fun _ => rfl) al0 ?_
    obtain ⟨v28, Y26, hv27, h⟩ := bd_some h
    refine w_cV1 k67 (sn_60 _ _ _ hv27) rfl (st := []) rfl ?_ (fun _ _ q => q.elim)
    obtain ⟨hc29, h⟩ := ck_some h
    obtain rfl := Option.some.inj h
    exact w_zreturn k67 (bz_or hc29) ⟨rfl, rfl⟩
set_option maxRecDepth 20000 in
set_option maxHeartbeats 4000000 in
/-- BallotBus$Tokens.isQuoted -/
theorem sn_99 {Y : Sm} (v : Int32) (Z : Sm) (h : fn_99 Y = some (v, Z)) : Mt 6 0 99 [aR 4 0] Y (Rt (some (aI v)) Z) nX := by
  refine Mt_of [(0, aR 4 0)] ?_
  generalize ho : (v, Z) = o at h
  have hv9 : v = o.1 := congrArg Prod.fst ho
  have hZ9 : Z = o.2 := congrArg Prod.snd ho
  clear ho
  subst hv9 hZ9
  unfold fn_99 at h
  refine w_sg k99 2 (pc' := 3) (ls' := [(0, aR 4 0)]) (st' := [aS 0, aR 4 0]) (cs' := []) (fun _ => rfl) al0 ?_
  obtain ⟨v3, Y1, hv2, h⟩ := bd_some h
  refine w_cV1 k99 (sn_97 _ _ _ hv2) rfl (st := []) rfl ?_ (fun _ _ q => q.elim)
  refine w_if_ne k99 rfl (fun c => ?_) (fun c => ?_)
  · replace h := if_f c h
    refine w_sg k99 2 (pc' := 158) (ls' := [(0, aR 4 0)]) (st' := [aI (nI 1)]) (cs' := []) (fun _ => rfl) al0 ?_
    obtain rfl := Option.some.inj h
    exact w_zreturn k99 (Or.inr rfl) ⟨rfl, rfl⟩
  · replace h := if_t c h
    refine w_sg k99 2 (pc' := 12) (ls' := [(0, aR 4 0)]) (st' := [aS 1, aR 4 0]) (cs' := []) (fun _ => rfl) al0 ?_
    obtain ⟨v6, Y4, hv5, h⟩ := bd_some h
    refine w_cV1 k99 (sn_97 _ _ _ hv5) rfl (st := []) rfl ?_ (fun _ _ q => q.elim)
    refine w_if_ne k99 rfl (fun c => ?_) (fun c => ?_)
    · replace h := if_f c h
      refine w_sg k99 2 (pc' := 158) (ls' := [(0, aR 4 0)]) (st' := [aI (nI 1)]) (cs' := []) (fun _ => rfl) al0 ?_
      obtain rfl := Option.some.inj h
      exact w_zreturn k99 (Or.inr rfl) ⟨rfl, rfl⟩
    · replace h := if_t c h
      refine w_sg k99 2 (pc' := 21) (ls' := [(0, aR 4 0)]) (st' := [aS 2, aR 4 0]) (cs' := []) (fun _ => rfl) al0 ?_
      obtain ⟨v9, Y7, hv8, h⟩ := bd_some h
      refine w_cV1 k99 (sn_97 _ _ _ hv8) rfl (st := []) rfl ?_ (fun _ _ q => q.elim)
      refine w_if_ne k99 rfl (fun c => ?_) (fun c => ?_)
      · replace h := if_f c h
        refine w_sg k99 2 (pc' := 158) (ls' := [(0, aR 4 0)]) (st' := [aI (nI 1)]) (cs' := []) (fun _ => rfl) al0 ?_
        obtain rfl := Option.some.inj h
        exact w_zreturn k99 (Or.inr rfl) ⟨rfl, rfl⟩
      · replace h := if_t c h
        refine w_sg k99 2 (pc' := 30) (ls' := [(0, aR 4 0)]) (st' := [aS 3, aR 4 0]) (cs' := []) (fun _ => rfl) al0 ?_
        obtain ⟨v12, Y10, hv11, h⟩ := bd_some h
        refine w_cV1 k99 (sn_97 _ _ _ hv11) rfl (st := []) rfl ?_ (fun _ _ q => q.elim)
        refine w_if_ne k99 rfl (fun c => ?_) (fun c => ?_)
        · replace h := if_f c h
          refine w_sg k99 2 (pc' := 158) (ls' := [(0, aR 4 0)]) (st' := [aI (nI 1)]) (cs' := []) (fun _ => rfl) al0 ?_
          obtain rfl := Option.some.inj h
          exact w_zreturn k99 (Or.inr rfl) ⟨rfl, rfl⟩
        · replace h := if_t c h
          refine w_sg k99 2 (pc' := 39) (ls' := [(0, aR 4 0)]) (st' := [aS 4, aR 4 0]) (cs' := []) (fun _ => rfl) al0 ?_
          obtain ⟨v15, Y13, hv14, h⟩ := bd_some h
          refine w_cV1 k99 (sn_97 _ _ _ hv14) rfl (st := []) rfl ?_ (fun _ _ q => q.elim)
          refine w_if_ne k99 rfl (fun c => ?_) (fun c => ?_)
          · replace h := if_f c h
            refine w_sg k99 2 (pc' := 158) (ls' := [(0, aR 4 0)]) (st' := [aI (nI 1)]) (cs' := []) (fun _ => rfl) al0 ?_
            obtain rfl := Option.some.inj h
            exact w_zreturn k99 (Or.inr rfl) ⟨rfl, rfl⟩
          · replace h := if_t c h
            refine w_sg k99 2 (pc' := 48) (ls' := [(0, aR 4 0)]) (st' := [aS 5, aR 4 0]) (cs' := []) (fun _ => rfl) al0 ?_
            obtain ⟨v18, Y16, hv17, h⟩ := bd_some h
            refine w_cV1 k99 (sn_97 _ _ _ hv17) rfl (st := []) rfl ?_ (fun _ _ q => q.elim)
            refine w_if_ne k99 rfl (fun c => ?_) (fun c => ?_)
            · replace h := if_f c h
              refine w_sg k99 2 (pc' := 158) (ls' := [(0, aR 4 0)]) (st' := [aI (nI 1)]) (cs' := []) (fun _ => rfl) al0 ?_
              obtain rfl := Option.some.inj h
              exact w_zreturn k99 (Or.inr rfl) ⟨rfl, rfl⟩
            · replace h := if_t c h
              refine w_sg k99 2 (pc' := 57) (ls' := [(0, aR 4 0)]) (st' := [aS 6, aR 4 0]) (cs' := []) (fun _ => rfl) al0 ?_
              obtain ⟨v21, Y19, hv20, h⟩ := bd_some h
              refine w_cV1 k99 (sn_97 _ _ _ hv20) rfl (st := []) rfl ?_ (fun _ _ q => q.elim)
              refine w_if_ne k99 rfl (fun c => ?_) (fun c => ?_)
              · replace h := if_f c h
                refine w_sg k99 2 (pc' := 158) (ls' := [(0, aR 4 0)]) (st' := [aI (nI 1)]) (cs' := []) (fun _ => rfl) al0 ?_
                obtain rfl := Option.some.inj h
                exact w_zreturn k99 (Or.inr rfl) ⟨rfl, rfl⟩
              · replace h := if_t c h
                refine w_sg k99 2 (pc' := 66) (ls' := [(0, aR 4 0)]) (st' := [aS 7, aR 4 0]) (cs' := []) (fun _ => rfl) al0 ?_
                obtain ⟨v24, Y22, hv23, h⟩ := bd_some h
                refine w_cV1 k99 (sn_97 _ _ _ hv23) rfl (st := []) rfl ?_ (fun _ _ q => q.elim)
                refine w_if_ne k99 rfl (fun c => ?_) (fun c => ?_)
                · replace h := if_f c h
                  refine w_sg k99 2 (pc' := 158) (ls' := [(0, aR 4 0)]) (st' := [aI (nI 1)]) (cs' := []) (fun _ => rfl) al0 ?_
                  obtain rfl := Option.some.inj h
                  exact w_zreturn k99 (Or.inr rfl) ⟨rfl, rfl⟩
                · replace h := if_t c h
                  refine w_sg k99 2 (pc' := 75) (ls' := [(0, aR 4 0)]) (st' := [aS 8, aR 4 0]) (cs' := []) (fun _ => rfl) al0 ?_
                  obtain ⟨v27, Y25, hv26, h⟩ := bd_some h
                  refine w_cV1 k99 (sn_97 _ _ _ hv26) rfl (st := []) rfl ?_ (fun _ _ q => q.elim)
                  refine w_if_ne k99 rfl (fun c => ?_) (fun c => ?_)
                  · replace h := if_f c h
                    refine w_sg k99 2 (pc' := 158) (ls' := [(0, aR 4 0)]) (st' := [aI (nI 1)]) (cs' := []) (fun _ => rfl) al0 ?_
                    obtain rfl := Option.some.inj h
                    exact w_zreturn k99 (Or.inr rfl) ⟨rfl, rfl⟩
                  · replace h := if_t c h
                    refine w_sg k99 2 (pc' := 84) (ls' := [(0, aR 4 0)]) (st' := [aS 9, aR 4 0]) (cs' := []) (fun _ => rfl) al0 ?_
                    obtain ⟨v30, Y28, hv29, h⟩ := bd_some h
                    refine w_cV1 k99 (sn_97 _ _ _ hv29) rfl (st := []) rfl ?_ (fun _ _ q => q.elim)
                    refine w_if_ne k99 rfl (fun c => ?_) (fun c => ?_)
                    · replace h := if_f c h
                      refine w_sg k99 2 (pc' := 158) (ls' := [(0, aR 4 0)]) (st' := [aI (nI 1)]) (cs' := []) (fun _ => rfl) al0 ?_
                      obtain rfl := Option.some.inj h
                      exact w_zreturn k99 (Or.inr rfl) ⟨rfl, rfl⟩
                    · replace h := if_t c h
                      refine w_sg k99 2 (pc' := 93) (ls' := [(0, aR 4 0)]) (st' := [aS 10, aR 4 0]) (cs' := []) (fun _ => rfl) al0 ?_
                      obtain ⟨v33, Y31, hv32, h⟩ := bd_some h
                      refine w_cV1 k99 (sn_97 _ _ _ hv32) rfl (st := []) rfl ?_ (fun _ _ q => q.elim)
                      refine w_if_ne k99 rfl (fun c => ?_) (fun c => ?_)
                      · replace h := if_f c h
                        refine w_sg k99 2 (pc' := 158) (ls' := [(0, aR 4 0)]) (st' := [aI (nI 1)]) (cs' := []) (fun _ => rfl) al0 ?_
                        obtain rfl := Option.some.inj h
                        exact w_zreturn k99 (Or.inr rfl) ⟨rfl, rfl⟩
                      · replace h := if_t c h
                        refine w_sg k99 2 (pc' := 102) (ls' := [(0, aR 4 0)]) (st' := [aS 11, aR 4 0]) (cs' := []) (fun _ => rfl) al0 ?_
                        obtain ⟨v36, Y34, hv35, h⟩ := bd_some h
                        refine w_cV1 k99 (sn_97 _ _ _ hv35) rfl (st := []) rfl ?_ (fun _ _ q => q.elim)
                        refine w_if_ne k99 rfl (fun c => ?_) (fun c => ?_)
                        · replace h := if_f c h
                          refine w_sg k99 2 (pc' := 158) (ls' := [(0, aR 4 0)]) (st' := [aI (nI 1)]) (cs' := []) (fun _ => rfl) al0 ?_
                          obtain rfl := Option.some.inj h
                          exact w_zreturn k99 (Or.inr rfl) ⟨rfl, rfl⟩
                        · replace h := if_t c h
                          refine w_sg k99 2 (pc' := 111) (ls' := [(0, aR 4 0)]) (st' := [aS 12, aR 4 0]) (cs' := []) (fun _ => rfl) al0 ?_
                          obtain ⟨v39, Y37, hv38, h⟩ := bd_some h
                          refine w_cV1 k99 (sn_97 _ _ _ hv38) rfl (st := []) rfl ?_ (fun _ _ q => q.elim)
                          refine w_if_ne k99 rfl (fun c => ?_) (fun c => ?_)
                          · replace h := if_f c h
                            refine w_sg k99 2 (pc' := 158) (ls' := [(0, aR 4 0)]) (st' := [aI (nI 1)]) (cs' := []) (fun _ => rfl) al0 ?_
                            obtain rfl := Option.some.inj h
                            exact w_zreturn k99 (Or.inr rfl) ⟨rfl, rfl⟩
                          · replace h := if_t c h
                            refine w_sg k99 2 (pc' := 120) (ls' := [(0, aR 4 0)]) (st' := [aS 13, aR 4 0]) (cs' := []) (fun _ => rfl) al0 ?_
                            obtain ⟨v42, Y40, hv41, h⟩ := bd_some h
                            refine w_cV1 k99 (sn_97 _ _ _ hv41) rfl (st := []) rfl ?_ (fun _ _ q => q.elim)
                            refine w_if_ne k99 rfl (fun c => ?_) (fun c => ?_)
                            · replace h := if_f c h
                              refine w_sg k99 2 (pc' := 158) (ls' := [(0, aR 4 0)]) (st' := [aI (nI 1)]) (cs' := []) (fun _ => rfl) al0 ?_
                              obtain rfl := Option.some.inj h
                              exact w_zreturn k99 (Or.inr rfl) ⟨rfl, rfl⟩
                            · replace h := if_t c h
                              refine w_sg k99 2 (pc' := 129) (ls' := [(0, aR 4 0)]) (st' := [aS 14, aR 4 0]) (cs' := []) (fun _ => rfl) al0 ?_
                              obtain ⟨v45, Y43, hv44, h⟩ := bd_some h
                              refine w_cV1 k99 (sn_97 _ _ _ hv44) rfl (st := []) rfl ?_ (fun _ _ q => q.elim)
                              refine w_if_ne k99 rfl (fun c => ?_) (fun c => ?_)
                              · replace h := if_f c h
                                refine w_sg k99 2 (pc' := 158) (ls' := [(0, aR 4 0)]) (st' := [aI (nI 1)]) (cs' := []) (fun _ => rfl) al0 ?_
                                obtain rfl := Option.some.inj h
                                exact w_zreturn k99 (Or.inr rfl) ⟨rfl, rfl⟩
                              · replace h := if_t c h
                                refine w_sg k99 2 (pc' := 138) (ls' := [(0, aR 4 0)]) (st' := [aS 15, aR 4 0]) (cs' := []) (fun _ => rfl) al0 ?_
                                obtain ⟨v48, Y46, hv47, h⟩ := bd_some h
                                refine w_cV1 k99 (sn_97 _ _ _ hv47) rfl (st := []) rfl ?_ (fun _ _ q => q.elim)
                                refine w_if_ne k99 rfl (fun c => ?_) (fun c => ?_)
                                · replace h := if_f c h
                                  refine w_sg k99 2 (pc' := 158) (ls' := [(0, aR 4 0)]) (st' := [aI (nI 1)]) (cs' := []) (fun _ => rfl) al0 ?_
                                  obtain rfl := Option.some.inj h
                                  exact w_zreturn k99 (Or.inr rfl) ⟨rfl, rfl⟩
                                · replace h := if_t c h
                                  refine w_sg k99 2 (pc' := 147) (ls' := [(0, aR 4 0)]) (st' := [aS 16, aR 4 0]) (cs' := []) (fun _ => rfl) al0 ?_
                                  obtain ⟨v51, Y49, hv50, h⟩ := bd_some h
                                  refine w_cV1 k99 (sn_97 _ _ _ hv50) rfl (st := []) rfl ?_ (fun _ _ q => q.elim)
                                  refine w_if_eq k99 rfl (fun c => ?_) (fun c => ?_)
                                  · replace h := if_t c h
                                    refine w_sg k99 1 (pc' := 158) (ls' := [(0, aR 4 0)]) (st' := [aI (nI 0)]) (cs' := []) (fun _ => rfl) al0 ?_
                                    obtain rfl := Option.some.inj h
                                    exact w_zreturn k99 (Or.inl rfl) ⟨rfl, rfl⟩
                                  · replace h := if_f c h
                                    refine w_sg k99 2 (pc' := 158) (ls' := [(0, aR 4 0)]) (st' := [aI (nI 1)]) (cs' := []) (fun _ => rfl) al0 ?_
                                    obtain rfl := Option.some.inj h
                                    exact w_zreturn k99 (Or.inr rfl) ⟨rfl, rfl⟩
set_option maxRecDepth 20000 in
set_option maxHeartbeats 4000000 in
/-- BallotBus$Tokens.isName -/
theorem sn_98 {Y : Sm} (v : Int32) (Z : Sm) (h : fn_98 Y = some (v, Z)) : Mt 7 0 98 [aR 4 0] Y (Rt (some (aI v)) Z) nX := by
  refine Mt_of [(0, aR 4 0)] ?_
  generalize ho : (v, Z) = o at h
  have hv9 : v = o.1 := congrArg Prod.fst ho
  have hZ9 : Z = o.2 := congrArg Prod.snd ho
  clear ho
  subst hv9 hZ9
  unfold fn_98 at h
  refine w_sg k98 3 (pc' := 5) (ls' := [(0, aR 4 0)]) (st' := [aI (nI 1), aI (gI Y.1 4 0 1)]) (cs' := []) (fun _ => rfl) al0 ?_
  refine w_icmp_ne k98 rfl (fun c => ?_) (fun c => ?_)
  · replace h := if_f c h
    refine w_sg k98 1 (pc' := 29) (ls' := [(0, aR 4 0)]) (st' := [aI (nI 0)]) (cs' := []) (fun _ => rfl) al0 ?_
    obtain rfl := Option.some.inj h
    exact w_zreturn k98 (Or.inl rfl) ⟨rfl, rfl⟩
  · replace h := if_t c h
    refine w_sg k98 1 (pc' := 9) (ls' := [(0, aR 4 0)]) (st' := [aR 4 0]) (cs' := []) (fun _ => rfl) al0 ?_
    obtain ⟨v3, Y1, hv2, h⟩ := bd_some h
    refine w_cV1 k98 (sn_96  _ _ hv2) rfl (st := []) rfl ?_ (fun _ _ q => q.elim)
    refine w_sg k98 1 (pc' := 14) (ls' := [(0, aR 4 0)]) (st' := [aI (nI 6), aI v3]) (cs' := []) (fun _ => rfl) al0 ?_
    refine w_icmp_gt k98 rfl (fun c => ?_) (fun c => ?_)
    · replace h := if_t c h
      refine w_sg k98 1 (pc' := 29) (ls' := [(0, aR 4 0)]) (st' := [aI (nI 0)]) (cs' := []) (fun _ => rfl) al0 ?_
      obtain rfl := Option.some.inj h
      exact w_zreturn k98 (Or.inl rfl) ⟨rfl, rfl⟩
    · replace h := if_f c h
      refine w_sg k98 1 (pc' := 18) (ls' := [(0, aR 4 0)]) (st' := [aR 4 0]) (cs' := []) (fun _ => rfl) al0 ?_
      obtain ⟨v6, Y4, hv5, h⟩ := bd_some h
      refine w_cV1 k98 (sn_99  _ _ hv5) rfl (st := []) rfl ?_ (fun _ _ q => q.elim)
      refine w_if_ne k98 rfl (fun c => ?_) (fun c => ?_)
      · replace h := if_f c h
        refine w_sg k98 1 (pc' := 29) (ls' := [(0, aR 4 0)]) (st' := [aI (nI 0)]) (cs' := []) (fun _ => rfl) al0 ?_
        obtain rfl := Option.some.inj h
        exact w_zreturn k98 (Or.inl rfl) ⟨rfl, rfl⟩
      · replace h := if_t c h
        refine w_sg k98 2 (pc' := 29) (ls' := [(0, aR 4 0)]) (st' := [aI (nI 1)]) (cs' := []) (fun _ => rfl) al0 ?_
        obtain rfl := Option.some.inj h
        exact w_zreturn k98 (Or.inr rfl) ⟨rfl, rfl⟩
set_option maxRecDepth 20000 in
set_option maxHeartbeats 4000000 in
/-- BallotBus$Input.nameAt -/
theorem sn_23 (a1 : Int32) (a2 : Int32) {Y : Sm} (v : Int64) (Z : Sm) (h : fn_23 a1 a2 Y = some (v, Z)) : Mt 5 0 23 [aR 1 0, aI a1, aI a2] Y (Rt (some (aJ v)) Z) nX := by
  refine Mt_of [(0, aR 1 0), (1, aI a1), (2, aI a2)] ?_
  generalize ho : (v, Z) = o at h
  have hv9 : v = o.1 := congrArg Prod.fst ho
  have hZ9 : Z = o.2 := congrArg Prod.snd ho
  clear ho
  subst hv9 hZ9
  unfold fn_23 at h
  have L5_0 : ∀ (l2 : Int32) (n : Nat) (l3 : Int64) (l5 : Int32) (Y : Sm), lp (fun s => fn_23_L5 l2 s.1 s.2.1 s.2.2) n (l3, l5, Y) = some o → Wm 5 0 23 0 5 [(0, aR 1 0), (2, aI l2), (3, aJ l3), (5, aI l5)] [] Y (Rt (some (aJ o.1)) o.2) nX := by
    intro l2 n
    induction n with
    | zero => intro l3 l5 Y h; cases h
    | succ n ih3 =>
      intro l3 l5 Y h
      obtain ⟨q1, h, hn2⟩ := lp_succ h
      replace h : fn_23_L5 l2 l3 l5 Y = some q1 := h
      unfold fn_23_L5 at h
      refine w_sg k23 2 (pc' := 8) (ls' := [(0, aR 1 0), (2, aI l2), (3, aJ l3), (5, aI l5)]) (st' := [aI l2, aI l5]) (cs' := []) (fun _ => rfl) al0 ?_
      refine w_icmp_ge k23 rfl (fun c => ?_) (fun c => ?_)
      · replace h := if_t c h
        refine w_sg k23 1 (pc' := 31) (ls' := [(0, aR 1 0), (2, aI l2), (3, aJ l3), (5, aI l5)]) (st' := [aJ l3]) (cs' := []) (fun _ => rfl) al0 ?_
        obtain rfl := Option.some.inj h
        obtain rfl := lpn_r hn2
        exact w_lreturn k23 ⟨rfl, rfl⟩
      · replace h := if_f c h
        refine w_sg k23 5 (pc' := 18) (ls' := [(0, aR 1 0), (2, aI l2), (3, aJ l3), (5, aI l5)]) (st' := [aI l5, aR 1 0, aJ (l3 <<< ((nI 8).toInt64 &&& 63))]) (cs' := []) (fun _ => rfl) al0 ?_
        obtain ⟨v6, Y4, hv5, h⟩ := bd_some h
        refine w_cV1 k23 (sn_18 _ _ _ hv5) rfl (st := [aJ (l3 <<< ((nI 8).toInt64 &&& 63))]) rfl ?_ (fun _ _ q => q.elim)
        refine w_sg k23 3 (pc' := 24) (ls' := [(0, aR 1 0), (2, aI l2), (3, aJ ((l3 <<< ((nI 8).toInt64 &&& 63)) ||| ((v6).toInt64))), (5, aI l5)]) (st' := []) (cs' := []) (fun _ => rfl) al0 ?_
        refine w_sg k23 1 (pc' := 27) (ls' := [(0, aR 1 0), (2, aI l2), (3, aJ ((l3 <<< ((nI 8).toInt64 &&& 63)) ||| ((v6).toInt64))), (5, aI (l5 + (nI 1)))]) (st' := []) (cs' := []) (fun _ => rfl) al0 ?_
        refine w_sg k23 1 (pc' := 5) (ls' := [(0, aR 1 0), (2, aI l2), (3, aJ ((l3 <<< ((nI 8).toInt64 &&& 63)) ||| ((v6).toInt64))), (5, aI (l5 + (nI 1)))]) (st' := []) (cs' := []) (fun _ => rfl) al0 ?_
        refine w_ls [(0, aR 1 0), (2, aI l2), (3, aJ ((l3 <<< ((nI 8).toInt64 &&& 63)) ||| ((v6).toInt64))), (5, aI (l5 + (nI 1)))] (lq_c rfl (lq_c rfl (lq_c rfl (lq_c rfl lq_n)))) ?_
        obtain rfl := Option.some.inj h
        exact ih3 _ _ _ (lpn_l hn2)
  refine w_sg k23 2 (pc' := 2) (ls' := [(0, aR 1 0), (1, aI a1), (2, aI a2), (3, aJ (Int64.ofNat 0))]) (st' := []) (cs' := []) (fun _ => rfl) al0 ?_
  refine w_sg k23 2 (pc' := 5) (ls' := [(0, aR 1 0), (1, aI a1), (2, aI a2), (3, aJ (Int64.ofNat 0)), (5, aI a1)]) (st' := []) (cs' := []) (fun _ => rfl) al0 ?_
  refine w_ls [(0, aR 1 0), (2, aI a2), (3, aJ (Int64.ofNat 0)), (5, aI a1)] (lq_c rfl (lq_c rfl (lq_c rfl (lq_c rfl lq_n)))) ?_
  exact L5_0 _ _ _ _ _ h
set_option maxRecDepth 20000 in
set_option maxHeartbeats 4000000 in
/-- BallotBus$Tokens.name -/
theorem sn_100 {Y : Sm} (v : Int64) (Z : Sm) (h : fn_100 Y = some (v, Z)) : Mt 6 0 100 [aR 4 0] Y (Rt (some (aJ v)) Z) nX := by
  refine Mt_of [(0, aR 4 0)] ?_
  generalize ho : (v, Z) = o at h
  have hv9 : v = o.1 := congrArg Prod.fst ho
  have hZ9 : Z = o.2 := congrArg Prod.snd ho
  clear ho
  subst hv9 hZ9
  unfold fn_100 at h
  refine w_sg k100 6 (pc' := 12) (ls' := [(0, aR 4 0)]) (st' := [aI (gI Y.1 4 0 3), aI (gI Y.1 4 0 2), aR 1 0]) (cs' := []) (fun _ => rfl) al0 ?_
  obtain ⟨v3, Y1, hv2, h⟩ := bd_some h
  refine w_cV1 k100 (sn_23 _ _ _ _ hv2) rfl (st := []) rfl ?_ (fun _ _ q => q.elim)
  obtain rfl := Option.some.inj h
  exact w_lreturn k100 ⟨rfl, rfl⟩
set_option maxRecDepth 20000 in
set_option maxHeartbeats 4000000 in
/-- BallotBus$Setup.askerNamed -/
theorem sn_57 (i0 : Nat) (a1 : Int64) {Y : Sm} (v : Int32) (Z : Sm) (h : fn_57 i0 a1 Y = some (v, Z)) : Mt 4 0 57 [aR 5 i0, aJ a1] Y (Rt (some (aI v)) Z) nX := by
  refine Mt_of [(0, aR 5 i0), (1, aJ a1)] ?_
  generalize ho : (v, Z) = o at h
  have hv9 : v = o.1 := congrArg Prod.fst ho
  have hZ9 : Z = o.2 := congrArg Prod.snd ho
  clear ho
  subst hv9 hZ9
  unfold fn_57 at h
  have L2_0 : ∀ (l0 : Nat) (l1 : Int64) (n : Nat) (l3 : Int32) (Y : Sm), lp (fun s => fn_57_L2 l0 l1 s.1 s.2) n (l3, Y) = some o → Wm 4 0 57 0 2 [(0, aR 5 l0), (1, aJ l1), (3, aI l3)] [] Y (Rt (some (aI o.1)) o.2) nX := by
    intro l0 l1 n
    induction n with
    | zero => intro l3 Y h; cases h
    | succ n ih3 =>
      intro l3 Y h
      obtain ⟨q1, h, hn2⟩ := lp_succ h
      replace h : fn_57_L2 l0 l1 l3 Y = some q1 := h
      unfold fn_57_L2 at h
      refine w_sg k57 3 (pc' := 7) (ls' := [(0, aR 5 l0), (1, aJ l1), (3, aI l3)]) (st' := [aI (gI Y.1 5 l0 3), aI l3]) (cs' := []) (fun _ => rfl) al0 ?_
      refine w_icmp_ge k57 rfl (fun c => ?_) (fun c => ?_)
      · replace h := if_t c h
        refine w_sg k57 1 (pc' := 30) (ls' := [(0, aR 5 l0), (1, aJ l1), (3, aI l3)]) (st' := [aI (-1 : Int32)]) (cs' := []) (fun _ => rfl) al0 ?_
        obtain rfl := Option.some.inj h
        obtain rfl := lpn_r hn2
        exact w_ireturn k57 ⟨rfl, rfl⟩
      · replace h := if_f c h
        obtain ⟨hc4, h⟩ := ck_some h
        refine w_sg k57 6 (pc' := 18) (ls' := [(0, aR 5 l0), (1, aJ l1), (3, aI l3)]) (st' := [aI (lg_cmp (gJ Y.1 8 l0 (ix l3)) l1)]) (cs' := [vp_in l3 8]) (fun _ => rfl) (al1 (vin hc4)) ?_
        refine w_if_ne k57 rfl (fun c => ?_) (fun c => ?_)
        · replace h := if_f c h
          refine w_sg k57 1 (pc' := 26) (ls' := [(0, aR 5 l0), (1, aJ l1), (3, aI (l3 + (nI 1)))]) (st' := []) (cs' := []) (fun _ => rfl) al0 ?_
          refine w_sg k57 1 (pc' := 2) (ls' := [(0, aR 5 l0), (1, aJ l1), (3, aI (l3 + (nI 1)))]) (st' := []) (cs' := []) (fun _ => rfl) al0 ?_
          refine w_ls [(0, aR 5 l0), (1, aJ l1), (3, aI (l3 + (nI 1)))] (lq_c rfl (lq_c rfl (lq_c rfl lq_n))) ?_
          obtain rfl := Option.some.inj h
          exact ih3 _ _ (lpn_l hn2)
        · replace h := if_t c h
          refine w_sg k57 1 (pc' := 22) (ls' := [(0, aR 5 l0), (1, aJ l1), (3, aI l3)]) (st' := [aI l3]) (cs' := []) (fun _ => rfl) al0 ?_
          obtain rfl := Option.some.inj h
          obtain rfl := lpn_r hn2
          exact w_ireturn k57 ⟨rfl, rfl⟩
  refine w_sg k57 2 (pc' := 2) (ls' := [(0, aR 5 i0), (1, aJ a1), (3, aI (nI 0))]) (st' := []) (cs' := []) (fun _ => rfl) al0 ?_
  refine w_ls [(0, aR 5 i0), (1, aJ a1), (3, aI (nI 0))] (lq_c rfl (lq_c rfl (lq_c rfl lq_n))) ?_
  exact L2_0 _ _ _ _ _ h
set_option maxRecDepth 20000 in
set_option maxHeartbeats 4000000 in
/-- BallotBus$Setup.kindNamed -/
theorem sn_56 (i0 : Nat) (a1 : Int64) {Y : Sm} (v : Int32) (Z : Sm) (h : fn_56 i0 a1 Y = some (v, Z)) : Mt 4 0 56 [aR 5 i0, aJ a1] Y (Rt (some (aI v)) Z) nX := by
  refine Mt_of [(0, aR 5 i0), (1, aJ a1)] ?_
  generalize ho : (v, Z) = o at h
  have hv9 : v = o.1 := congrArg Prod.fst ho
  have hZ9 : Z = o.2 := congrArg Prod.snd ho
  clear ho
  subst hv9 hZ9
  unfold fn_56 at h
  have L2_0 : ∀ (l0 : Nat) (l1 : Int64) (n : Nat) (l3 : Int32) (Y : Sm), lp (fun s => fn_56_L2 l0 l1 s.1 s.2) n (l3, Y) = some o → Wm 4 0 56 0 2 [(0, aR 5 l0), (1, aJ l1), (3, aI l3)] [] Y (Rt (some (aI o.1)) o.2) nX := by
    intro l0 l1 n
    induction n with
    | zero => intro l3 Y h; cases h
    | succ n ih3 =>
      intro l3 Y h
      obtain ⟨q1, h, hn2⟩ := lp_succ h
      replace h : fn_56_L2 l0 l1 l3 Y = some q1 := h
      unfold fn_56_L2 at h
      refine w_sg k56 3 (pc' := 7) (ls' := [(0, aR 5 l0), (1, aJ l1), (3, aI l3)]) (st' := [aI (gI Y.1 5 l0 0), aI l3]) (cs' := []) (fun _ => rfl) al0 ?_
      refine w_icmp_ge k56 rfl (fun c => ?_) (fun c => ?_)
      · replace h := if_t c h
        refine w_sg k56 1 (pc' := 30) (ls' := [(0, aR 5 l0), (1, aJ l1), (3, aI l3)]) (st' := [aI (-1 : Int32)]) (cs' := []) (fun _ => rfl) al0 ?_
        obtain rfl := Option.some.inj h
        obtain rfl := lpn_r hn2
        exact w_ireturn k56 ⟨rfl, rfl⟩
      · replace h := if_f c h
        obtain ⟨hc4, h⟩ := ck_some h
        refine w_sg k56 6 (pc' := 18) (ls' := [(0, aR 5 l0), (1, aJ l1), (3, aI l3)]) (st' := [aI (lg_cmp (gJ Y.1 6 l0 (ix l3)) l1)]) (cs' := [vp_in l3 5]) (fun _ => rfl) (al1 (vin hc4)) ?_
        refine w_if_ne k56 rfl (fun c => ?_) (fun c => ?_)
        · replace h := if_f c h
          refine w_sg k56 1 (pc' := 26) (ls' := [(0, aR 5 l0), (1, aJ l1), (3, aI (l3 + (nI 1)))]) (st' := []) (cs' := []) (fun _ => rfl) al0 ?_
          refine w_sg k56 1 (pc' := 2) (ls' := [(0, aR 5 l0), (1, aJ l1), (3, aI (l3 + (nI 1)))]) (st' := []) (cs' := []) (fun _ => rfl) al0 ?_
          refine w_ls [(0, aR 5 l0), (1, aJ l1), (3, aI (l3 + (nI 1)))] (lq_c rfl (lq_c rfl (lq_c rfl lq_n))) ?_
          obtain rfl := Option.some.inj h
          exact ih3 _ _ (lpn_l hn2)
        · replace h := if_t c h
          refine w_sg k56 1 (pc' := 22) (ls' := [(0, aR 5 l0), (1, aJ l1), (3, aI l3)]) (st' := [aI l3]) (cs' := []) (fun _ => rfl) al0 ?_
          obtain rfl := Option.some.inj h
          obtain rfl := lpn_r hn2
          exact w_ireturn k56 ⟨rfl, rfl⟩
  refine w_sg k56 2 (pc' := 2) (ls' := [(0, aR 5 i0), (1, aJ a1), (3, aI (nI 0))]) (st' := []) (cs' := []) (fun _ => rfl) al0 ?_
  refine w_ls [(0, aR 5 i0), (1, aJ a1), (3, aI (nI 0))] (lq_c rfl (lq_c rfl (lq_c rfl lq_n))) ?_
  exact L2_0 _ _ _ _ _ h
set_option maxRecDepth 20000 in
set_option maxHeartbeats 4000000 in
/-- BallotBus$Requests.add -/
theorem sn_36 (i0 : Nat) (a1 : Int32) (a2 : Int32) (a3 : Int32) (a4 : Int32) (a5 : Int32) {Y : Sm} (v : Unit) (Z : Sm) (h : fn_36 i0 a1 a2 a3 a4 a5 Y = some (v, Z)) : Mt 4 0 36 [aR 12 i0, aI a1, aI a2, aI a3, aI a4, aI a5] Y (Rt none Z) nX := by
  refine Mt_of [(0, aR 12 i0), (1, aI a1), (2, aI a2), (3, aI a3), (4, aI a4), (5, aI a5)] ?_
  generalize ho : (v, Z) = o at h
  have hv9 : v = o.1 := congrArg Prod.fst ho
  have hZ9 : Z = o.2 := congrArg Prod.snd ho
  clear ho
  subst hv9 hZ9
  unfold fn_36 at h
  refine w_sg k36 3 (pc' := 6) (ls' := [(0, aR 12 i0), (1, aI a1), (2, aI a2), (3, aI a3), (4, aI a4), (5, aI a5)]) (st' := [aI (nI 40), aI (gI Y.1 12 i0 1)]) (cs' := []) (fun _ => rfl) al0 ?_
  refine w_icmp_ge k36 rfl (fun c => ?_) (fun c => ?_)
  · replace h := if_t c h
    obtain rfl := Option.some.inj h
    exact w_return k36 ⟨rfl, rfl⟩
  · replace h := if_f c h
    refine w_sg k36 4 (pc' := 15) (ls' := [(0, aR 12 i0), (1, aI a1), (2, aI a2), (3, aI a3), (4, aI a4), (5, aI a5)]) (st' := [aR 14 i0]) (cs' := [vp_in (nI 0) 6]) (fun _ => rfl) (al1 (vin rfl)) ?_
    obtain ⟨hc1, h⟩ := ck_some h
    refine w_sw k36 4 (Z := (sI Y 14 i0 (ix (gI Y.1 12 i0 1)) a2)) (pc' := 21) (ls' := [(0, aR 12 i0), (1, aI a1), (2, aI a2), (3, aI a3), (4, aI a4), (5, aI a5)]) (st' := []) (cs' := [vp_in (gI Y.1 12 i0 1) 40, allw 14 i0]) (fun _ => rfl) rfl (al2 (vin hc1) (al1 rfl)) ?_
    replace h := wr_some h
    generalize (sI Y 14 i0 (ix (gI Y.1 12 i0 1)) a2) = Y2 at h ⊢
    refine w_sg k36 4 (pc' := 27) (ls' := [(0, aR 12 i0), (1, aI a1), (2, aI a2), (3, aI a3), (4, aI a4), (5, aI a5)]) (st' := [aR 15 i0]) (cs' := [vp_in (nI 1) 6]) (fun _ => rfl) (al1 (vin rfl)) ?_
    obtain ⟨hc3, h⟩ := ck_some h
    refine w_sw k36 4 (Z := (sI Y2 15 i0 (ix (gI Y2.1 12 i0 1)) a3)) (pc' := 33) (ls' := [(0, aR 12 i0), (1, aI a1), (2, aI a2), (3, aI a3), (4, aI a4), (5, aI a5)]) (st' := []) (cs' := [vp_in (gI Y2.1 12 i0 1) 40, allw 15 i0]) (fun _ => rfl) rfl (al2 (vin hc3) (al1 rfl)) ?_
    replace h := wr_some h
    generalize (sI Y2 15 i0 (ix (gI Y2.1 12 i0 1)) a3) = Y4 at h ⊢
    refine w_sg k36 4 (pc' := 39) (ls' := [(0, aR 12 i0), (1, aI a1), (2, aI a2), (3, aI a3), (4, aI a4), (5, aI a5)]) (st' := [aR 16 i0]) (cs' := [vp_in (nI 2) 6]) (fun _ => rfl) (al1 (vin rfl)) ?_
    obtain ⟨hc5, h⟩ := ck_some h
    refine w_sw k36 4 (Z := (sI Y4 16 i0 (ix (gI Y4.1 12 i0 1)) a4)) (pc' := 46) (ls' := [(0, aR 12 i0), (1, aI a1), (2, aI a2), (3, aI a3), (4, aI a4), (5, aI a5)]) (st' := []) (cs' := [vp_in (gI Y4.1 12 i0 1) 40, allw 16 i0]) (fun _ => rfl) rfl (al2 (vin hc5) (al1 rfl)) ?_
    replace h := wr_some h
    generalize (sI Y4 16 i0 (ix (gI Y4.1 12 i0 1)) a4) = Y6 at h ⊢
    refine w_sg k36 4 (pc' := 52) (ls' := [(0, aR 12 i0), (1, aI a1), (2, aI a2), (3, aI a3), (4, aI a4), (5, aI a5)]) (st' := [aR 17 i0]) (cs' := [vp_in (nI 3) 6]) (fun _ => rfl) (al1 (vin rfl)) ?_
    obtain ⟨hc7, h⟩ := ck_some h
    refine w_sw k36 4 (Z := (sI Y6 17 i0 (ix (gI Y6.1 12 i0 1)) a4)) (pc' := 59) (ls' := [(0, aR 12 i0), (1, aI a1), (2, aI a2), (3, aI a3), (4, aI a4), (5, aI a5)]) (st' := []) (cs' := [vp_in (gI Y6.1 12 i0 1) 40, allw 17 i0]) (fun _ => rfl) rfl (al2 (vin hc7) (al1 rfl)) ?_
    replace h := wr_some h
    generalize (sI Y6 17 i0 (ix (gI Y6.1 12 i0 1)) a4) = Y8 at h ⊢
    refine w_sg k36 4 (pc' := 65) (ls' := [(0, aR 12 i0), (1, aI a1), (2, aI a2), (3, aI a3), (4, aI a4), (5, aI a5)]) (st' := [aR 18 i0]) (cs' := [vp_in (nI 4) 6]) (fun _ => rfl) (al1 (vin rfl)) ?_
    obtain ⟨hc9, h⟩ := ck_some h
    refine w_sw k36 4 (Z := (sI Y8 18 i0 (ix (gI Y8.1 12 i0 1)) a5)) (pc' := 72) (ls' := [(0, aR 12 i0), (1, aI a1), (2, aI a2), (3, aI a3), (4, aI a4), (5, aI a5)]) (st' := []) (cs' := [vp_in (gI Y8.1 12 i0 1) 40, allw 18 i0]) (fun _ => rfl) rfl (al2 (vin hc9) (al1 rfl)) ?_
    replace h := wr_some h
    generalize (sI Y8 18 i0 (ix (gI Y8.1 12 i0 1)) a5) = Y10 at h ⊢
    refine w_sg k36 4 (pc' := 78) (ls' := [(0, aR 12 i0), (1, aI a1), (2, aI a2), (3, aI a3), (4, aI a4), (5, aI a5)]) (st' := [aR 19 i0]) (cs' := [vp_in (nI 5) 6]) (fun _ => rfl) (al1 (vin rfl)) ?_
    obtain ⟨hc11, h⟩ := ck_some h
    refine w_sw k36 4 (Z := (sI Y10 19 i0 (ix (gI Y10.1 12 i0 1)) a1)) (pc' := 84) (ls' := [(0, aR 12 i0), (1, aI a1), (2, aI a2), (3, aI a3), (4, aI a4), (5, aI a5)]) (st' := []) (cs' := [vp_in (gI Y10.1 12 i0 1) 40, allw 19 i0]) (fun _ => rfl) rfl (al2 (vin hc11) (al1 rfl)) ?_
    replace h := wr_some h
    generalize (sI Y10 19 i0 (ix (gI Y10.1 12 i0 1)) a1) = Y12 at h ⊢
    refine w_sw k36 6 (Z := (sI Y12 12 i0 1 ((gI Y12.1 12 i0 1) + (nI 1)))) (pc' := 94) (ls' := [(0, aR 12 i0), (1, aI a1), (2, aI a2), (3, aI a3), (4, aI a4), (5, aI a5)]) (st' := []) (cs' := [allw 12 i0]) (fun _ => rfl) rfl (al1 rfl) ?_
    replace h := wr_some h
    generalize (sI Y12 12 i0 1 ((gI Y12.1 12 i0 1) + (nI 1))) = Y13 at h ⊢
    obtain rfl := Option.some.inj h
    exact w_return k36 ⟨rfl, rfl⟩
