/-! the code of the methods does what their functions say (printed by wip/whole/gen20.py) -/
set_option maxRecDepth 20000 in
set_option maxHeartbeats 4000000 in
/-- BallotBusModel.bestVeto -/
theorem sn_263 (a1 : Int32) (a2 : Int32) {Y : Sm} (v : Int32) (Z : Sm) (h : fn_263 a1 a2 Y = some (v, Z)) : Mt 15 0 263 [aR 48 0, aI a1, aI a2] Y (Rt (some (aI v)) Z) nX := by
  refine Mt_of [(0, aR 48 0), (1, aI a1), (2, aI a2)] ?_
  generalize ho : (v, Z) = o at h
  have hv9 : v = o.1 := congrArg Prod.fst ho
  have hZ9 : Z = o.2 := congrArg Prod.snd ho
  clear ho
  subst hv9 hZ9
  unfold fn_263 at h
  have L39_0 : ∀ (l1 : Int32) (l2 : Int32) (n : Nat) (l3 : Int32) (l4 : Int32) (l5 : Int32) (Y : Sm), lp (fun s => fn_263_L39 l1 l2 s.1 s.2.1 s.2.2.1 s.2.2.2) n (l3, l4, l5, Y) = some o → Wm 15 0 263 0 39 [(0, aR 48 0), (1, aI l1), (2, aI l2), (3, aI l3), (4, aI l4), (5, aI l5)] [] Y (Rt (some (aI o.1)) o.2) nX := by
    intro l1 l2 n
    induction n with
    | zero => intro l3 l4 l5 Y h; cases h
    | succ n ih18 =>
      intro l3 l4 l5 Y h
      obtain ⟨q16, h, hn17⟩ := lp_succ h
      replace h : fn_263_L39 l1 l2 l3 l4 l5 Y = some q16 := h
      unfold fn_263_L39 at h
      refine w_sg k263 3 (pc' := 45) (ls' := [(0, aR 48 0), (1, aI l1), (2, aI l2), (3, aI l3), (4, aI l4), (5, aI l5)]) (st' := [aI (gI Y.1 48 0 1), aI l5]) (cs' := []) (fun _ => rfl) al0 ?_
      refine w_icmp_ge k263 rfl (fun c => ?_) (fun c => ?_)
      · replace h := if_t c h
        refine w_sg k263 1 (pc' := 82) (ls' := [(0, aR 48 0), (1, aI l1), (2, aI l2), (3, aI l3), (4, aI l4), (5, aI l5)]) (st' := [aI l3]) (cs' := []) (fun _ => rfl) al0 ?_
        obtain rfl := Option.some.inj h
        obtain rfl := lpn_r hn17
        exact w_ireturn k263 ⟨rfl, rfl⟩
      · replace h := if_f c h
        refine w_sg k263 4 (pc' := 53) (ls' := [(0, aR 48 0), (1, aI l1), (2, aI l2), (3, aI l3), (4, aI l4), (5, aI l5)]) (st' := [aI l2, aI l5, aI l1, aR 48 0]) (cs' := []) (fun _ => rfl) al0 ?_
        obtain ⟨v21, Y19, hv20, h⟩ := bd_some h
        refine w_cV1 k263 (sn_262 _ _ _ _ _ hv20) rfl (st := []) rfl ?_ (fun _ _ q => q.elim)
        refine w_sg k263 1 (pc' := 58) (ls' := [(0, aR 48 0), (1, aI l1), (2, aI l2), (3, aI l3), (4, aI l4), (5, aI l5), (6, aI v21)]) (st' := []) (cs' := []) (fun _ => rfl) al0 ?_
        refine w_sg k263 2 (pc' := 62) (ls' := [(0, aR 48 0), (1, aI l1), (2, aI l2), (3, aI l3), (4, aI l4), (5, aI l5), (6, aI v21)]) (st' := [aI l4, aI v21]) (cs' := []) (fun _ => rfl) al0 ?_
        refine w_icmp_gt k263 rfl (fun c => ?_) (fun c => ?_)
        · replace h := if_t c h
          refine w_sg k263 2 (pc' := 71) (ls' := [(0, aR 48 0), (1, aI l1), (2, aI l2), (3, aI l5), (4, aI l4), (5, aI l5), (6, aI v21)]) (st' := []) (cs' := []) (fun _ => rfl) al0 ?_
          refine w_sg k263 2 (pc' := 75) (ls' := [(0, aR 48 0), (1, aI l1), (2, aI l2), (3, aI l5), (4, aI v21), (5, aI l5), (6, aI v21)]) (st' := []) (cs' := []) (fun _ => rfl) al0 ?_
          refine w_sg k263 1 (pc' := 78) (ls' := [(0, aR 48 0), (1, aI l1), (2, aI l2), (3, aI l5), (4, aI v21), (5, aI (l5 + (nI 1))), (6, aI v21)]) (st' := []) (cs' := []) (fun _ => rfl) al0 ?_
          refine w_sg k263 1 (pc' := 39) (ls' := [(0, aR 48 0), (1, aI l1), (2, aI l2), (3, aI l5), (4, aI v21), (5, aI (l5 + (nI 1))), (6, aI v21)]) (st' := []) (cs' := []) (fun _ => rfl) al0 ?_
          refine w_ls [(0, aR 48 0), (1, aI l1), (2, aI l2), (3, aI l5), (4, aI v21), (5, aI (l5 + (nI 1)))] (lq_c rfl (lq_c rfl (lq_c rfl (lq_c rfl (lq_c rfl (lq_c rfl lq_n)))))) ?_
          obtain rfl := Option.some.inj h
          exact ih18 _ _ _ _ (lpn_l hn17)
        · replace h := if_f c h
          refine w_sg k263 2 (pc' := 78) (ls' := [(0, aR 48 0), (1, aI l1), (2, aI l2), (3, aI l3), (4, aI l4), (5, aI (l5 + (nI 1))), (6, aI v21)]) (st' := []) (cs' := []) (fun _ => rfl) al0 ?_
          refine w_sg k263 1 (pc' := 39) (ls' := [(0, aR 48 0), (1, aI l1), (2, aI l2), (3, aI l3), (4, aI l4), (5, aI (l5 + (nI 1))), (6, aI v21)]) (st' := []) (cs' := []) (fun _ => rfl) al0 ?_
          refine w_ls [(0, aR 48 0), (1, aI l1), (2, aI l2), (3, aI l3), (4, aI l4), (5, aI (l5 + (nI 1)))] (lq_c rfl (lq_c rfl (lq_c rfl (lq_c rfl (lq_c rfl (lq_c rfl lq_n)))))) ?_
          obtain rfl := Option.some.inj h
          exact ih18 _ _ _ _ (lpn_l hn17)
  refine w_sg k263 3 (pc' := 3) (ls' := [(0, aR 48 0), (1, aI a1), (2, aI a2)]) (st' := [aI a1, aR 48 0, aR 48 0]) (cs' := []) (fun _ => rfl) al0 ?_
  obtain ⟨v3, Y1, hv2, h⟩ := bd_some h
  refine w_cV1 k263 (sn_208 _ _ _ hv2) rfl (st := [aR 48 0]) rfl ?_ (fun _ _ q => q.elim)
  obtain ⟨v6, Y4, hv5, h⟩ := bd_some h
  refine w_cV1 k263 (sn_164 _ _ _ hv5) rfl (st := []) rfl ?_ (fun _ _ q => q.elim)
  refine w_if_eq k263 rfl (fun c => ?_) (fun c => ?_)
  · replace h := if_t c h
    refine w_sg k263 1 (pc' := 25) (ls' := [(0, aR 48 0), (1, aI a1), (2, aI a2)]) (st' := [aI (nI 0)]) (cs' := []) (fun _ => rfl) al0 ?_
    obtain rfl := Option.some.inj h
    exact w_ireturn k263 ⟨rfl, rfl⟩
  · replace h := if_f c h
    refine w_sg k263 2 (pc' := 14) (ls' := [(0, aR 48 0), (1, aI a1), (2, aI a2)]) (st' := [aI a2, aR 48 0]) (cs' := []) (fun _ => rfl) al0 ?_
    obtain ⟨v9, Y7, hv8, h⟩ := bd_some h
    refine w_cS1 k263 (sn_210 _ _ _ hv8) rfl (st := [aR 48 0]) rfl ?_ (fun _ _ q => q.elim)
    refine w_sg k263 1 (pc' := 18) (ls' := [(0, aR 48 0), (1, aI a1), (2, aI a2)]) (st' := [aI (nI 2), aI v9, aR 48 0]) (cs' := []) (fun _ => rfl) al0 ?_
    obtain ⟨v12, Y10, hv11, h⟩ := bd_some h
    refine w_cV1 k263 (sn_165 _ _ _ _ hv11) rfl (st := []) rfl ?_ (fun _ _ q => q.elim)
    refine w_if_ne k263 rfl (fun c => ?_) (fun c => ?_)
    · replace h := if_f c h
      refine w_sg k263 2 (pc' := 28) (ls' := [(0, aR 48 0), (1, aI a1), (2, aI a2), (3, aI (-1 : Int32))]) (st' := []) (cs' := []) (fun _ => rfl) al0 ?_
      refine w_sg k263 3 (pc' := 31) (ls' := [(0, aR 48 0), (1, aI a1), (2, aI a2), (3, aI (-1 : Int32))]) (st' := [aI a1, aI a2, aR 48 0]) (cs' := []) (fun _ => rfl) al0 ?_
      obtain ⟨v15, Y13, hv14, h⟩ := bd_some h
      refine w_cV1 k263 (sn_260 _ _ _ _ hv14) rfl (st := []) rfl ?_ (fun _ _ q => q.elim)
      refine w_sg k263 1 (pc' := 36) (ls' := [(0, aR 48 0), (1, aI a1), (2, aI a2), (3, aI (-1 : Int32)), (4, aI v15)]) (st' := []) (cs' := []) (fun _ => rfl) al0 ?_
      refine w_sg k263 2 (pc' := 39) (ls' := [(0, aR 48 0), (1, aI a1), (2, aI a2), (3, aI (-1 : Int32)), (4, aI v15), (5, aI (nI 0))]) (st' := []) (cs' := []) (fun _ => rfl) al0 ?_
      refine w_ls [(0, aR 48 0), (1, aI a1), (2, aI a2), (3, aI (-1 : Int32)), (4, aI v15), (5, aI (nI 0))] (lq_c rfl (lq_c rfl (lq_c rfl (lq_c rfl (lq_c rfl (lq_c rfl lq_n)))))) ?_
      exact L39_0 _ _ _ _ _ _ _ h
    · replace h := if_t c h
      refine w_sg k263 1 (pc' := 25) (ls' := [(0, aR 48 0), (1, aI a1), (2, aI a2)]) (st' := [aI (nI 0)]) (cs' := []) (fun _ => rfl) al0 ?_
      obtain rfl := Option.some.inj h
      exact w_ireturn k263 ⟨rfl, rfl⟩
set_option maxRecDepth 20000 in
set_option maxHeartbeats 4000000 in
/-- BallotBusModel.bestTally -/
theorem sn_264 (a1 : Int32) {Y : Sm} (v : Int32) (Z : Sm) (h : fn_264 a1 Y = some (v, Z)) : Mt 14 0 264 [aR 48 0, aI a1] Y (Rt (some (aI v)) Z) nX := by
  refine Mt_of [(0, aR 48 0), (1, aI a1)] ?_
  generalize ho : (v, Z) = o at h
  have hv9 : v = o.1 := congrArg Prod.fst ho
  have hZ9 : Z = o.2 := congrArg Prod.snd ho
  clear ho
  subst hv9 hZ9
  unfold fn_264 at h
  have L20_0 : ∀ (l1 : Int32) (n : Nat) (l2 : Int32) (l3 : Int32) (l4 : Int32) (Y : Sm), lp (fun s => fn_264_L20 l1 s.1 s.2.1 s.2.2.1 s.2.2.2) n (l2, l3, l4, Y) = some o → Wm 14 0 264 0 20 [(0, aR 48 0), (1, aI l1), (2, aI l2), (3, aI l3), (4, aI l4)] [] Y (Rt (some (aI o.1)) o.2) nX := by
    intro l1 n
    induction n with
    | zero => intro l2 l3 l4 Y h; cases h
    | succ n ih9 =>
      intro l2 l3 l4 Y h
      obtain ⟨q7, h, hn8⟩ := lp_succ h
      replace h : fn_264_L20 l1 l2 l3 l4 Y = some q7 := h
      unfold fn_264_L20 at h
      refine w_sg k264 2 (pc' := 23) (ls' := [(0, aR 48 0), (1, aI l1), (2, aI l2), (3, aI l3), (4, aI l4)]) (st' := [aI (nI 2), aI l4]) (cs' := []) (fun _ => rfl) al0 ?_
      refine w_icmp_gt k264 rfl (fun c => ?_) (fun c => ?_)
      · replace h := if_t c h
        refine w_sg k264 1 (pc' := 72) (ls' := [(0, aR 48 0), (1, aI l1), (2, aI l2), (3, aI l3), (4, aI l4)]) (st' := [aI l2]) (cs' := []) (fun _ => rfl) al0 ?_
        obtain rfl := Option.some.inj h
        obtain rfl := lpn_r hn8
        exact w_ireturn k264 ⟨rfl, rfl⟩
      · replace h := if_f c h
        refine w_sg k264 1 (pc' := 27) (ls' := [(0, aR 48 0), (1, aI l1), (2, aI l2), (3, aI l3), (4, aI l4)]) (st' := [aR 48 0]) (cs' := []) (fun _ => rfl) al0 ?_
        obtain ⟨_, Y10, hv11, h⟩ := bd_some h
        refine w_cV0 k264 (sn_176  _ _ hv11) rfl (st := []) rfl ?_ (fun _ _ q => q.elim)
        refine w_sw k264 5 (Z := (sI Y10 52 0 1 l4)) (pc' := 38) (ls' := [(0, aR 48 0), (1, aI l1), (2, aI l2), (3, aI l3), (4, aI l4)]) (st' := []) (cs' := [vp_in (nI 1) 718, allw 52 0]) (fun _ => rfl) rfl (al2 (vin rfl) (al1 rfl)) ?_
        replace h := wr_some h
        generalize (sI Y10 52 0 1 l4) = Y12 at h ⊢
        refine w_sg k264 4 (pc' := 42) (ls' := [(0, aR 48 0), (1, aI l1), (2, aI l2), (3, aI l3), (4, aI l4)]) (st' := [aI (-1 : Int32), aI l1, aR 48 0, aR 48 0]) (cs' := []) (fun _ => rfl) al0 ?_
        obtain ⟨v15, Y13, hv14, h⟩ := bd_some h
        refine w_cV1 k264 (sn_207 _ _ _ _ hv14) rfl (st := [aR 48 0]) rfl ?_ (fun _ _ q => q.elim)
        obtain ⟨v18, Y16, hv17, h⟩ := bd_some h
        refine w_cV1 k264 (sn_177 _ _ _ hv17) rfl (st := []) rfl ?_ (fun _ _ q => q.elim)
        refine w_sg k264 1 (pc' := 50) (ls' := [(0, aR 48 0), (1, aI l1), (2, aI l2), (3, aI l3), (4, aI l4), (5, aI v18)]) (st' := []) (cs' := []) (fun _ => rfl) al0 ?_
        refine w_sg k264 2 (pc' := 53) (ls' := [(0, aR 48 0), (1, aI l1), (2, aI l2), (3, aI l3), (4, aI l4), (5, aI v18)]) (st' := [aI l3, aI v18]) (cs' := []) (fun _ => rfl) al0 ?_
        refine w_icmp_gt k264 rfl (fun c => ?_) (fun c => ?_)
        · replace h := if_t c h
          refine w_sg k264 2 (pc' := 62) (ls' := [(0, aR 48 0), (1, aI l1), (2, aI l4), (3, aI l3), (4, aI l4), (5, aI v18)]) (st' := []) (cs' := []) (fun _ => rfl) al0 ?_
          refine w_sg k264 2 (pc' := 65) (ls' := [(0, aR 48 0), (1, aI l1), (2, aI l4), (3, aI v18), (4, aI l4), (5, aI v18)]) (st' := []) (cs' := []) (fun _ => rfl) al0 ?_
          refine w_sg k264 1 (pc' := 68) (ls' := [(0, aR 48 0), (1, aI l1), (2, aI l4), (3, aI v18), (4, aI (l4 + (nI 1))), (5, aI v18)]) (st' := []) (cs' := []) (fun _ => rfl) al0 ?_
          refine w_sg k264 1 (pc' := 20) (ls' := [(0, aR 48 0), (1, aI l1), (2, aI l4), (3, aI v18), (4, aI (l4 + (nI 1))), (5, aI v18)]) (st' := []) (cs' := []) (fun _ => rfl) al0 ?_
          refine w_ls [(0, aR 48 0), (1, aI l1), (2, aI l4), (3, aI v18), (4, aI (l4 + (nI 1)))] (lq_c rfl (lq_c rfl (lq_c rfl (lq_c rfl (lq_c rfl lq_n))))) ?_
          obtain rfl := Option.some.inj h
          exact ih9 _ _ _ _ (lpn_l hn8)
        · replace h := if_f c h
          refine w_sg k264 2 (pc' := 68) (ls' := [(0, aR 48 0), (1, aI l1), (2, aI l2), (3, aI l3), (4, aI (l4 + (nI 1))), (5, aI v18)]) (st' := []) (cs' := []) (fun _ => rfl) al0 ?_
          refine w_sg k264 1 (pc' := 20) (ls' := [(0, aR 48 0), (1, aI l1), (2, aI l2), (3, aI l3), (4, aI (l4 + (nI 1))), (5, aI v18)]) (st' := []) (cs' := []) (fun _ => rfl) al0 ?_
          refine w_ls [(0, aR 48 0), (1, aI l1), (2, aI l2), (3, aI l3), (4, aI (l4 + (nI 1)))] (lq_c rfl (lq_c rfl (lq_c rfl (lq_c rfl (lq_c rfl lq_n))))) ?_
          obtain rfl := Option.some.inj h
          exact ih9 _ _ _ _ (lpn_l hn8)
  refine w_sg k264 2 (pc' := 2) (ls' := [(0, aR 48 0), (1, aI a1)]) (st' := [aI a1, aR 48 0]) (cs' := []) (fun _ => rfl) al0 ?_
  obtain ⟨v3, Y1, hv2, h⟩ := bd_some h
  refine w_cS1 k264 (sn_210 _ _ _ hv2) rfl (st := [aR 48 0]) rfl ?_ (fun _ _ q => q.elim)
  obtain ⟨v6, Y4, hv5, h⟩ := bd_some h
  refine w_cV1 k264 (sn_164 _ _ _ hv5) rfl (st := []) rfl ?_ (fun _ _ q => q.elim)
  refine w_if_ne k264 rfl (fun c => ?_) (fun c => ?_)
  · replace h := if_f c h
    refine w_sg k264 2 (pc' := 15) (ls' := [(0, aR 48 0), (1, aI a1), (2, aI (nI 0))]) (st' := []) (cs' := []) (fun _ => rfl) al0 ?_
    refine w_sg k264 2 (pc' := 17) (ls' := [(0, aR 48 0), (1, aI a1), (2, aI (nI 0)), (3, aI (-1 : Int32))]) (st' := []) (cs' := []) (fun _ => rfl) al0 ?_
    refine w_sg k264 2 (pc' := 20) (ls' := [(0, aR 48 0), (1, aI a1), (2, aI (nI 0)), (3, aI (-1 : Int32)), (4, aI (nI 0))]) (st' := []) (cs' := []) (fun _ => rfl) al0 ?_
    refine w_ls [(0, aR 48 0), (1, aI a1), (2, aI (nI 0)), (3, aI (-1 : Int32)), (4, aI (nI 0))] (lq_c rfl (lq_c rfl (lq_c rfl (lq_c rfl (lq_c rfl lq_n))))) ?_
    exact L20_0 _ _ _ _ _ _ h
  · replace h := if_t c h
    refine w_sg k264 1 (pc' := 12) (ls' := [(0, aR 48 0), (1, aI a1)]) (st' := [aI (nI 0)]) (cs' := []) (fun _ => rfl) al0 ?_
    obtain rfl := Option.some.inj h
    exact w_ireturn k264 ⟨rfl, rfl⟩
set_option maxRecDepth 20000 in
set_option maxHeartbeats 4000000 in
/-- BallotBusModel.bestBallot -/
theorem sn_265 (a1 : Int32) {Y : Sm} (v : Int32) (Z : Sm) (h : fn_265 a1 Y = some (v, Z)) : Mt 14 0 265 [aR 48 0, aI a1] Y (Rt (some (aI v)) Z) nX := by
  refine Mt_of [(0, aR 48 0), (1, aI a1)] ?_
  generalize ho : (v, Z) = o at h
  have hv9 : v = o.1 := congrArg Prod.fst ho
  have hZ9 : Z = o.2 := congrArg Prod.snd ho
  clear ho
  subst hv9 hZ9
  unfold fn_265 at h
  have L25_0 : ∀ (l1 : Int32) (n : Nat) (l2 : Int32) (l3 : Int32) (l4 : Int32) (Y : Sm), lp (fun s => fn_265_L25 l1 s.1 s.2.1 s.2.2.1 s.2.2.2) n (l2, l3, l4, Y) = some o → Wm 14 0 265 0 25 [(0, aR 48 0), (1, aI l1), (2, aI l2), (3, aI l3), (4, aI l4)] [] Y (Rt (some (aI o.1)) o.2) nX := by
    intro l1 n
    induction n with
    | zero => intro l2 l3 l4 Y h; cases h
    | succ n ih9 =>
      intro l2 l3 l4 Y h
      obtain ⟨q7, h, hn8⟩ := lp_succ h
      replace h : fn_265_L25 l1 l2 l3 l4 Y = some q7 := h
      unfold fn_265_L25 at h
      refine w_sg k265 2 (pc' := 28) (ls' := [(0, aR 48 0), (1, aI l1), (2, aI l2), (3, aI l3), (4, aI l4)]) (st' := [aR 48 0, aI l4]) (cs' := []) (fun _ => rfl) al0 ?_
      obtain ⟨v12, Y10, hv11, h⟩ := bd_some h
      refine w_cV1 k265 (sn_252  _ _ hv11) rfl (st := [aI l4]) rfl ?_ (fun _ _ q => q.elim)
      refine w_icmp_ge k265 rfl (fun c => ?_) (fun c => ?_)
      · replace h := if_t c h
        refine w_sg k265 1 (pc' := 91) (ls' := [(0, aR 48 0), (1, aI l1), (2, aI l2), (3, aI l3), (4, aI l4)]) (st' := [aI l2]) (cs' := []) (fun _ => rfl) al0 ?_
        obtain rfl := Option.some.inj h
        obtain rfl := lpn_r hn8
        exact w_ireturn k265 ⟨rfl, rfl⟩
      · replace h := if_f c h
        refine w_sg k265 2 (pc' := 37) (ls' := [(0, aR 48 0), (1, aI l1), (2, aI l2), (3, aI l3), (4, aI l4)]) (st' := [aI l4, aR 48 0]) (cs' := []) (fun _ => rfl) al0 ?_
        obtain ⟨v15, Y13, hv14, h⟩ := bd_some h
        refine w_cV1 k265 (sn_214 _ _ _ hv14) rfl (st := []) rfl ?_ (fun _ _ q => q.elim)
        refine w_if_ne k265 rfl (fun c => ?_) (fun c => ?_)
        · replace h := if_f c h
          refine w_sg k265 1 (pc' := 47) (ls' := [(0, aR 48 0), (1, aI l1), (2, aI l2), (3, aI l3), (4, aI l4)]) (st' := [aR 48 0]) (cs' := []) (fun _ => rfl) al0 ?_
          obtain ⟨_, Y16, hv17, h⟩ := bd_some h
          refine w_cV0 k265 (sn_176  _ _ hv17) rfl (st := []) rfl ?_ (fun _ _ q => q.elim)
          refine w_sg k265 1 (pc' := 51) (ls' := [(0, aR 48 0), (1, aI l1), (2, aI l2), (3, aI l3), (4, aI l4)]) (st' := [aR 48 0]) (cs' := []) (fun _ => rfl) al0 ?_
          obtain ⟨v20, Y18, hv19, h⟩ := bd_some h
          refine w_cV1 k265 (sn_215  _ _ hv19) rfl (st := []) rfl ?_ (fun _ _ q => q.elim)
          refine w_sg k265 1 (pc' := 56) (ls' := [(0, aR 48 0), (1, aI l1), (2, aI l2), (3, aI l3), (4, aI l4), (5, aI v20)]) (st' := []) (cs' := []) (fun _ => rfl) al0 ?_
          refine w_sg k265 4 (pc' := 61) (ls' := [(0, aR 48 0), (1, aI l1), (2, aI l2), (3, aI l3), (4, aI l4), (5, aI v20)]) (st' := [aI v20, aI l1, aR 48 0, aR 48 0]) (cs' := []) (fun _ => rfl) al0 ?_
          obtain ⟨v23, Y21, hv22, h⟩ := bd_some h
          refine w_cV1 k265 (sn_207 _ _ _ _ hv22) rfl (st := [aR 48 0]) rfl ?_ (fun _ _ q => q.elim)
          obtain ⟨v26, Y24, hv25, h⟩ := bd_some h
          refine w_cV1 k265 (sn_177 _ _ _ hv25) rfl (st := []) rfl ?_ (fun _ _ q => q.elim)
          refine w_sg k265 1 (pc' := 69) (ls' := [(0, aR 48 0), (1, aI l1), (2, aI l2), (3, aI l3), (4, aI l4), (5, aI v20), (6, aI v26)]) (st' := []) (cs' := []) (fun _ => rfl) al0 ?_
          refine w_sg k265 2 (pc' := 72) (ls' := [(0, aR 48 0), (1, aI l1), (2, aI l2), (3, aI l3), (4, aI l4), (5, aI v20), (6, aI v26)]) (st' := [aI l3, aI v26]) (cs' := []) (fun _ => rfl) al0 ?_
          refine w_icmp_gt k265 rfl (fun c => ?_) (fun c => ?_)
          · replace h := if_t c h
            refine w_sg k265 2 (pc' := 81) (ls' := [(0, aR 48 0), (1, aI l1), (2, aI l4), (3, aI l3), (4, aI l4), (5, aI v20), (6, aI v26)]) (st' := []) (cs' := []) (fun _ => rfl) al0 ?_
            refine w_sg k265 2 (pc' := 84) (ls' := [(0, aR 48 0), (1, aI l1), (2, aI l4), (3, aI v26), (4, aI l4), (5, aI v20), (6, aI v26)]) (st' := []) (cs' := []) (fun _ => rfl) al0 ?_
            refine w_sg k265 1 (pc' := 87) (ls' := [(0, aR 48 0), (1, aI l1), (2, aI l4), (3, aI v26), (4, aI (l4 + (nI 1))), (5, aI v20), (6, aI v26)]) (st' := []) (cs' := []) (fun _ => rfl) al0 ?_
            refine w_sg k265 1 (pc' := 25) (ls' := [(0, aR 48 0), (1, aI l1), (2, aI l4), (3, aI v26), (4, aI (l4 + (nI 1))), (5, aI v20), (6, aI v26)]) (st' := []) (cs' := []) (fun _ => rfl) al0 ?_
            refine w_ls [(0, aR 48 0), (1, aI l1), (2, aI l4), (3, aI v26), (4, aI (l4 + (nI 1)))] (lq_c rfl (lq_c rfl (lq_c rfl (lq_c rfl (lq_c rfl lq_n))))) ?_
            obtain rfl := Option.some.inj h
            exact ih9 _ _ _ _ (lpn_l hn8)
          · replace h := if_f c h
            refine w_sg k265 2 (pc' := 87) (ls' := [(0, aR 48 0), (1, aI l1), (2, aI l2), (3, aI l3), (4, aI (l4 + (nI 1))), (5, aI v20), (6, aI v26)]) (st' := []) (cs' := []) (fun _ => rfl) al0 ?_
            refine w_sg k265 1 (pc' := 25) (ls' := [(0, aR 48 0), (1, aI l1), (2, aI l2), (3, aI l3), (4, aI (l4 + (nI 1))), (5, aI v20), (6, aI v26)]) (st' := []) (cs' := []) (fun _ => rfl) al0 ?_
            refine w_ls [(0, aR 48 0), (1, aI l1), (2, aI l2), (3, aI l3), (4, aI (l4 + (nI 1)))] (lq_c rfl (lq_c rfl (lq_c rfl (lq_c rfl (lq_c rfl lq_n))))) ?_
            obtain rfl := Option.some.inj h
            exact ih9 _ _ _ _ (lpn_l hn8)
        · replace h := if_t c h
          refine w_sg k265 2 (pc' := 87) (ls' := [(0, aR 48 0), (1, aI l1), (2, aI l2), (3, aI l3), (4, aI (l4 + (nI 1)))]) (st' := []) (cs' := []) (fun _ => rfl) al0 ?_
          refine w_sg k265 1 (pc' := 25) (ls' := [(0, aR 48 0), (1, aI l1), (2, aI l2), (3, aI l3), (4, aI (l4 + (nI 1)))]) (st' := []) (cs' := []) (fun _ => rfl) al0 ?_
          refine w_ls [(0, aR 48 0), (1, aI l1), (2, aI l2), (3, aI l3), (4, aI (l4 + (nI 1)))] (lq_c rfl (lq_c rfl (lq_c rfl (lq_c rfl (lq_c rfl lq_n))))) ?_
          obtain rfl := Option.some.inj h
          exact ih9 _ _ _ _ (lpn_l hn8)
  refine w_sg k265 5 (pc' := 7) (ls' := [(0, aR 48 0), (1, aI a1)]) (st' := [aJ (((nI 100)).toInt64), aJ (Int64.ofNat 1), aJ ((a1).toInt64), aR 48 0]) (cs' := []) (fun _ => rfl) al0 ?_
  obtain ⟨v3, Y1, hv2, h⟩ := bd_some h
  refine w_cS1 k265 (sn_166 _ _ _ _ _ hv2) rfl (st := [aR 48 0]) rfl ?_ (fun _ _ q => q.elim)
  obtain ⟨v6, Y4, hv5, h⟩ := bd_some h
  refine w_cV1 k265 (sn_164 _ _ _ hv5) rfl (st := []) rfl ?_ (fun _ _ q => q.elim)
  refine w_if_ne k265 rfl (fun c => ?_) (fun c => ?_)
  · replace h := if_f c h
    refine w_sg k265 2 (pc' := 20) (ls' := [(0, aR 48 0), (1, aI a1), (2, aI (-1 : Int32))]) (st' := []) (cs' := []) (fun _ => rfl) al0 ?_
    refine w_sg k265 2 (pc' := 22) (ls' := [(0, aR 48 0), (1, aI a1), (2, aI (-1 : Int32)), (3, aI (-1 : Int32))]) (st' := []) (cs' := []) (fun _ => rfl) al0 ?_
    refine w_sg k265 2 (pc' := 25) (ls' := [(0, aR 48 0), (1, aI a1), (2, aI (-1 : Int32)), (3, aI (-1 : Int32)), (4, aI (nI 0))]) (st' := []) (cs' := []) (fun _ => rfl) al0 ?_
    refine w_ls [(0, aR 48 0), (1, aI a1), (2, aI (-1 : Int32)), (3, aI (-1 : Int32)), (4, aI (nI 0))] (lq_c rfl (lq_c rfl (lq_c rfl (lq_c rfl (lq_c rfl lq_n))))) ?_
    exact L25_0 _ _ _ _ _ _ h
  · replace h := if_t c h
    refine w_sg k265 1 (pc' := 17) (ls' := [(0, aR 48 0), (1, aI a1)]) (st' := [aI (nI 0)]) (cs' := []) (fun _ => rfl) al0 ?_
    obtain rfl := Option.some.inj h
    exact w_ireturn k265 ⟨rfl, rfl⟩
set_option maxRecDepth 20000 in
set_option maxHeartbeats 4000000 in
/-- BallotBusModel.silentIn -/
theorem sn_266 (a1 : Int32) {Y : Sm} (v : Int32) (Z : Sm) (h : fn_266 a1 Y = some (v, Z)) : Mt 13 0 266 [aR 48 0, aI a1] Y (Rt (some (aI v)) Z) nX := by
  refine Mt_of [(0, aR 48 0), (1, aI a1)] ?_
  generalize ho : (v, Z) = o at h
  have hv9 : v = o.1 := congrArg Prod.fst ho
  have hZ9 : Z = o.2 := congrArg Prod.snd ho
  clear ho
  subst hv9 hZ9
  unfold fn_266 at h
  have L20_0 : ∀ (l1 : Int32) (n : Nat) (l2 : Int32) (Y : Sm) (e12 : (Int32 × Sm) ⊕ (Int32 × Sm)), lp (fun s => fn_266_L20 l1 s.1 s.2) n (l2, Y) = some e12 → (∀ s9 : (Int32 × Sm), e12 = .inl s9 → Wm 13 0 266 0 46 [(0, aR 48 0), (1, aI l1), (2, aI s9.1)] [] s9.2 (Rt (some (aI o.1)) o.2) nX) → (∀ r, e12 = .inr r → r = o) → Wm 13 0 266 0 20 [(0, aR 48 0), (1, aI l1), (2, aI l2)] [] Y (Rt (some (aI o.1)) o.2) nX := by
    intro l1 n
    induction n with
    | zero => intro l2 Y e12 h; cases h
    | succ n ih11 =>
      intro l2 Y e12 h kE13 kR14
      obtain ⟨q9, h, hn10⟩ := lp_succ h
      replace h : fn_266_L20 l1 l2 Y = some q9 := h
      unfold fn_266_L20 at h
      refine w_sg k266 2 (pc' := 24) (ls' := [(0, aR 48 0), (1, aI l1), (2, aI l2)]) (st' := [aI (nI 1000), aI l2]) (cs' := []) (fun _ => rfl) al0 ?_
      refine w_icmp_ge k266 rfl (fun c => ?_) (fun c => ?_)
      · replace h := if_t c h
        refine w_ls [(0, aR 48 0), (1, aI l1), (2, aI l2)] (lq_c rfl (lq_c rfl (lq_c rfl lq_n))) ?_
        obtain rfl := Option.some.inj h
        obtain rfl := lpn_r hn10
        exact kE13 (l2, Y) rfl
      · replace h := if_f c h
        refine w_sg k266 2 (pc' := 29) (ls' := [(0, aR 48 0), (1, aI l1), (2, aI l2)]) (st' := [aI l1, aR 48 0]) (cs' := []) (fun _ => rfl) al0 ?_
        obtain ⟨v17, Y15, hv16, h⟩ := bd_some h
        refine w_cV1 k266 (sn_189 _ _ _ hv16) rfl (st := []) rfl ?_ (fun _ _ q => q.elim)
        refine w_if_eq k266 rfl (fun c => ?_) (fun c => ?_)
        · replace h := if_t c h
          refine w_ls [(0, aR 48 0), (1, aI l1), (2, aI l2)] (lq_c rfl (lq_c rfl (lq_c rfl lq_n))) ?_
          obtain rfl := Option.some.inj h
          obtain rfl := lpn_r hn10
          exact kE13 (l2, Y15) rfl
        · replace h := if_f c h
          refine w_sg k266 1 (pc' := 36) (ls' := [(0, aR 48 0), (1, aI l1), (2, aI l2)]) (st' := [aR 48 0]) (cs' := []) (fun _ => rfl) al0 ?_
          obtain ⟨_, Y18, hv19, h⟩ := bd_some h
          refine w_cV0 k266 (sn_205  _ _ hv19) rfl (st := []) rfl ?_ (fun _ _ q => q.elim)
          refine w_sg k266 4 (pc' := 43) (ls' := [(0, aR 48 0), (1, aI l1), (2, aI (l2 + (nI 1)))]) (st' := []) (cs' := []) (fun _ => rfl) al0 ?_
          refine w_sg k266 1 (pc' := 20) (ls' := [(0, aR 48 0), (1, aI l1), (2, aI (l2 + (nI 1)))]) (st' := []) (cs' := []) (fun _ => rfl) al0 ?_
          refine w_ls [(0, aR 48 0), (1, aI l1), (2, aI (l2 + (nI 1)))] (lq_c rfl (lq_c rfl (lq_c rfl lq_n))) ?_
          obtain rfl := Option.some.inj h
          exact ih11 _ _ _ (lpn_l hn10) kE13 kR14
  have J46_0 : ∀ (l1 : Int32) (l2 : Int32) (Y : Sm), fn_266_J46 l1 l2 Y = some o → Wm 13 0 266 0 46 [(0, aR 48 0), (1, aI l1), (2, aI l2)] [] Y (Rt (some (aI o.1)) o.2) nX := by
    intro l1 l2 Y h
    unfold fn_266_J46 at h
    refine w_sg k266 2 (pc' := 48) (ls' := [(0, aR 48 0), (1, aI l1), (2, aI l2)]) (st' := [aI l1, aR 48 0]) (cs' := []) (fun _ => rfl) al0 ?_
    obtain ⟨v22, Y20, hv21, h⟩ := bd_some h
    refine w_cV1 k266 (sn_189 _ _ _ hv21) rfl (st := []) rfl ?_ (fun _ _ q => q.elim)
    refine w_sg k266 1 (pc' := 52) (ls' := [(0, aR 48 0), (1, aI l1), (2, aI l2), (3, aI v22)]) (st' := []) (cs' := []) (fun _ => rfl) al0 ?_
    refine w_sg k266 2 (pc' := 54) (ls' := [(0, aR 48 0), (1, aI l1), (2, aI l2), (3, aI v22)]) (st' := [aI v22, aR 48 0]) (cs' := []) (fun _ => rfl) al0 ?_
    refine w_if_eq k266 rfl (fun c => ?_) (fun c => ?_)
    · replace h := if_t c h
      refine w_sg k266 1 (pc' := 62) (ls' := [(0, aR 48 0), (1, aI l1), (2, aI l2), (3, aI v22)]) (st' := [aI l2, aR 48 0]) (cs' := []) (fun _ => rfl) al0 ?_
      obtain ⟨v25, Y23, hv24, h⟩ := bd_some h
      refine w_cV1 k266 (sn_177 _ _ _ hv24) rfl (st := []) rfl ?_ (fun _ _ q => q.elim)
      obtain rfl := Option.some.inj h
      exact w_ireturn k266 ⟨rfl, rfl⟩
    · replace h := if_f c h
      refine w_sg k266 2 (pc' := 62) (ls' := [(0, aR 48 0), (1, aI l1), (2, aI l2), (3, aI v22)]) (st' := [aI (-1 : Int32), aR 48 0]) (cs' := []) (fun _ => rfl) al0 ?_
      obtain ⟨v28, Y26, hv27, h⟩ := bd_some h
      refine w_cV1 k266 (sn_177 _ _ _ hv27) rfl (st := []) rfl ?_ (fun _ _ q => q.elim)
      obtain rfl := Option.some.inj h
      exact w_ireturn k266 ⟨rfl, rfl⟩
  refine w_sg k266 3 (pc' := 3) (ls' := [(0, aR 48 0), (1, aI a1)]) (st' := [aI a1, aR 48 0, aR 48 0]) (cs' := []) (fun _ => rfl) al0 ?_
  obtain ⟨v3, Y1, hv2, h⟩ := bd_some h
  refine w_cV1 k266 (sn_208 _ _ _ hv2) rfl (st := [aR 48 0]) rfl ?_ (fun _ _ q => q.elim)
  obtain ⟨v6, Y4, hv5, h⟩ := bd_some h
  refine w_cV1 k266 (sn_164 _ _ _ hv5) rfl (st := []) rfl ?_ (fun _ _ q => q.elim)
  refine w_if_ne k266 rfl (fun c => ?_) (fun c => ?_)
  · replace h := if_f c h
    refine w_sg k266 1 (pc' := 15) (ls' := [(0, aR 48 0), (1, aI a1)]) (st' := [aR 48 0]) (cs' := []) (fun _ => rfl) al0 ?_
    obtain ⟨_, Y7, hv8, h⟩ := bd_some h
    refine w_cV0 k266 (sn_176  _ _ hv8) rfl (st := []) rfl ?_ (fun _ _ q => q.elim)
    refine w_sg k266 2 (pc' := 20) (ls' := [(0, aR 48 0), (1, aI a1), (2, aI (nI 0))]) (st' := []) (cs' := []) (fun _ => rfl) al0 ?_
    obtain ⟨e31, hl29, hx30⟩ := exd_some h
    refine w_ls [(0, aR 48 0), (1, aI a1), (2, aI (nI 0))] (lq_c rfl (lq_c rfl (lq_c rfl lq_n))) ?_
    refine L20_0 _ _ _ _ e31 hl29 (fun s9 hs9 => ?_) (fun r9 hr9 => ?_)
    · subst hs9
      replace h : fn_266_J46 a1 s9.1 s9.2 = some o := hx30
      refine w_ls [(0, aR 48 0), (1, aI a1), (2, aI s9.1)] (lq_c rfl (lq_c rfl (lq_c rfl lq_n))) ?_
      exact J46_0 _ _ _ h
    · subst hr9
      exact hx30
  · replace h := if_t c h
    refine w_sg k266 1 (pc' := 13) (ls' := [(0, aR 48 0), (1, aI a1)]) (st' := [aI (nI 0)]) (cs' := []) (fun _ => rfl) al0 ?_
    obtain rfl := Option.some.inj h
    exact w_ireturn k266 ⟨rfl, rfl⟩
set_option maxRecDepth 20000 in
set_option maxHeartbeats 4000000 in
/-- BallotBusModel.emptyIn -/
theorem sn_267 {Y : Sm} (v : Int32) (Z : Sm) (h : fn_267 Y = some (v, Z)) : Mt 13 0 267 [aR 48 0] Y (Rt (some (aI v)) Z) nX := by
  refine Mt_of [(0, aR 48 0)] ?_
  generalize ho : (v, Z) = o at h
  have hv9 : v = o.1 := congrArg Prod.fst ho
  have hZ9 : Z = o.2 := congrArg Prod.snd ho
  clear ho
  subst hv9 hZ9
  unfold fn_267 at h
  have L11_0 : ∀ (n : Nat) (l1 : Int32) (Y : Sm) (e7 : (Int32 × Sm) ⊕ (Int32 × Sm)), lp (fun s => fn_267_L11 s.1 s.2) n (l1, Y) = some e7 → (∀ s9 : (Int32 × Sm), e7 = .inl s9 → Wm 13 0 267 0 39 [(0, aR 48 0), (1, aI s9.1)] [] s9.2 (Rt (some (aI o.1)) o.2) nX) → (∀ r, e7 = .inr r → r = o) → Wm 13 0 267 0 11 [(0, aR 48 0), (1, aI l1)] [] Y (Rt (some (aI o.1)) o.2) nX := by
    intro n
    induction n with
    | zero => intro l1 Y e7 h; cases h
    | succ n ih6 =>
      intro l1 Y e7 h kE8 kR9
      obtain ⟨q4, h, hn5⟩ := lp_succ h
      replace h : fn_267_L11 l1 Y = some q4 := h
      unfold fn_267_L11 at h
      refine w_sg k267 2 (pc' := 15) (ls' := [(0, aR 48 0), (1, aI l1)]) (st' := [aI (nI 1000), aI l1]) (cs' := []) (fun _ => rfl) al0 ?_
      refine w_icmp_ge k267 rfl (fun c => ?_) (fun c => ?_)
      · replace h := if_t c h
        refine w_ls [(0, aR 48 0), (1, aI l1)] (lq_c rfl (lq_c rfl lq_n)) ?_
        obtain rfl := Option.some.inj h
        obtain rfl := lpn_r hn5
        exact kE8 (l1, Y) rfl
      · replace h := if_f c h
        refine w_sg k267 4 (pc' := 25) (ls' := [(0, aR 48 0), (1, aI l1)]) (st' := [aI (gI Y.1 52 0 9)]) (cs' := [vp_in (nI 9) 718]) (fun _ => rfl) (al1 (vin rfl)) ?_
        refine w_if_le k267 rfl (fun c => ?_) (fun c => ?_)
        · replace h := if_t c h
          refine w_ls [(0, aR 48 0), (1, aI l1)] (lq_c rfl (lq_c rfl lq_n)) ?_
          obtain rfl := Option.some.inj h
          obtain rfl := lpn_r hn5
          exact kE8 (l1, Y) rfl
        · replace h := if_f c h
          refine w_sg k267 1 (pc' := 29) (ls' := [(0, aR 48 0), (1, aI l1)]) (st' := [aR 48 0]) (cs' := []) (fun _ => rfl) al0 ?_
          obtain ⟨_, Y10, hv11, h⟩ := bd_some h
          refine w_cV0 k267 (sn_205  _ _ hv11) rfl (st := []) rfl ?_ (fun _ _ q => q.elim)
          refine w_sg k267 4 (pc' := 36) (ls' := [(0, aR 48 0), (1, aI (l1 + (nI 1)))]) (st' := []) (cs' := []) (fun _ => rfl) al0 ?_
          refine w_sg k267 1 (pc' := 11) (ls' := [(0, aR 48 0), (1, aI (l1 + (nI 1)))]) (st' := []) (cs' := []) (fun _ => rfl) al0 ?_
          refine w_ls [(0, aR 48 0), (1, aI (l1 + (nI 1)))] (lq_c rfl (lq_c rfl lq_n)) ?_
          obtain rfl := Option.some.inj h
          exact ih6 _ _ _ (lpn_l hn5) kE8 kR9
  have J39_0 : ∀ (l1 : Int32) (Y : Sm), fn_267_J39 l1 Y = some o → Wm 13 0 267 0 39 [(0, aR 48 0), (1, aI l1)] [] Y (Rt (some (aI o.1)) o.2) nX := by
    intro l1 Y h
    unfold fn_267_J39 at h
    refine w_sg k267 5 (pc' := 47) (ls' := [(0, aR 48 0), (1, aI l1)]) (st' := [aI (gI Y.1 52 0 9), aR 48 0]) (cs' := [vp_in (nI 9) 718]) (fun _ => rfl) (al1 (vin rfl)) ?_
    refine w_if_le k267 rfl (fun c => ?_) (fun c => ?_)
    · replace h := if_t c h
      refine w_sg k267 1 (pc' := 55) (ls' := [(0, aR 48 0), (1, aI l1)]) (st' := [aI l1, aR 48 0]) (cs' := []) (fun _ => rfl) al0 ?_
      obtain ⟨v14, Y12, hv13, h⟩ := bd_some h
      refine w_cV1 k267 (sn_177 _ _ _ hv13) rfl (st := []) rfl ?_ (fun _ _ q => q.elim)
      obtain rfl := Option.some.inj h
      exact w_ireturn k267 ⟨rfl, rfl⟩
    · replace h := if_f c h
      refine w_sg k267 2 (pc' := 55) (ls' := [(0, aR 48 0), (1, aI l1)]) (st' := [aI (-1 : Int32), aR 48 0]) (cs' := []) (fun _ => rfl) al0 ?_
      obtain ⟨v17, Y15, hv16, h⟩ := bd_some h
      refine w_cV1 k267 (sn_177 _ _ _ hv16) rfl (st := []) rfl ?_ (fun _ _ q => q.elim)
      obtain rfl := Option.some.inj h
      exact w_ireturn k267 ⟨rfl, rfl⟩
  refine w_sw k267 3 (Z := (sI Y 48 0 0 (nI 0))) (pc' := 5) (ls' := [(0, aR 48 0)]) (st' := []) (cs' := [allw 48 0]) (fun _ => rfl) rfl (al1 rfl) ?_
  replace h := wr_some h
  generalize (sI Y 48 0 0 (nI 0)) = Y1 at h ⊢
  refine w_sg k267 1 (pc' := 6) (ls' := [(0, aR 48 0)]) (st' := [aR 48 0]) (cs' := []) (fun _ => rfl) al0 ?_
  obtain ⟨_, Y2, hv3, h⟩ := bd_some h
  refine w_cV0 k267 (sn_176  _ _ hv3) rfl (st := []) rfl ?_ (fun _ _ q => q.elim)
  refine w_sg k267 2 (pc' := 11) (ls' := [(0, aR 48 0), (1, aI (nI 0))]) (st' := []) (cs' := []) (fun _ => rfl) al0 ?_
  obtain ⟨e20, hl18, hx19⟩ := exd_some h
  refine w_ls [(0, aR 48 0), (1, aI (nI 0))] (lq_c rfl (lq_c rfl lq_n)) ?_
  refine L11_0 _ _ _ e20 hl18 (fun s9 hs9 => ?_) (fun r9 hr9 => ?_)
  · subst hs9
    replace h : fn_267_J39 s9.1 s9.2 = some o := hx19
    refine w_ls [(0, aR 48 0), (1, aI s9.1)] (lq_c rfl (lq_c rfl lq_n)) ?_
    exact J39_0 _ _ h
  · subst hr9
    exact hx19
set_option maxRecDepth 20000 in
set_option maxHeartbeats 4000000 in
/-- BallotBusModel.feed -/
theorem sn_270 (a1 : Int32) (a2 : Int32) (a3 : Int32) (a4 : Int32) (a5 : Int32) {Y : Sm} (v : Int32) (Z : Sm) (h : fn_270 a1 a2 a3 a4 a5 Y = some (v, Z)) : Mt 4 0 270 [aR 48 0, aI a1, aI a2, aI a3, aI a4, aI a5] Y (Rt (some (aI v)) Z) nX := by
  refine Mt_of [(0, aR 48 0), (1, aI a1), (2, aI a2), (3, aI a3), (4, aI a4), (5, aI a5)] ?_
  generalize ho : (v, Z) = o at h
  have hv9 : v = o.1 := congrArg Prod.fst ho
  have hZ9 : Z = o.2 := congrArg Prod.snd ho
  clear ho
  subst hv9 hZ9
  unfold fn_270 at h
  have L23_0 : ∀ (l1 : Int32) (l2 : Int32) (l3 : Int32) (l4 : Int32) (l5 : Int32) (n : Nat) (l6 : Int32) (Y : Sm), lp (fun s => fn_270_L23 l1 l2 l3 l4 l5 s.1 s.2) n (l6, Y) = some o → Wm 4 0 270 0 23 [(0, aR 48 0), (1, aI l1), (2, aI l2), (3, aI l3), (4, aI l4), (5, aI l5), (6, aI l6)] [] Y (Rt (some (aI o.1)) o.2) nX := by
    intro l1 l2 l3 l4 l5 n
    induction n with
    | zero => intro l6 Y h; cases h
    | succ n ih4 =>
      intro l6 Y h
      obtain ⟨q2, h, hn3⟩ := lp_succ h
      replace h : fn_270_L23 l1 l2 l3 l4 l5 l6 Y = some q2 := h
      unfold fn_270_L23 at h
      have J76_0 : ∀ (l6 : Int32) (t0 : Int32) (Y : Sm), fn_270_J76_d1 l1 l2 l3 l4 l5 l6 t0 Y = some q2 → Wm 4 0 270 0 76 [(0, aR 48 0), (1, aI l1), (2, aI l2), (3, aI l3), (4, aI l4), (5, aI l5), (6, aI l6)] [aI t0] Y (Rt (some (aI o.1)) o.2) nX := by
        intro l6 t0 Y h
        unfold fn_270_J76_d1 at h
        refine w_sg k270 1 (pc' := 78) (ls' := [(0, aR 48 0), (1, aI l1), (2, aI l2), (3, aI l3), (4, aI l4), (5, aI l5), (6, aI l6), (7, aI t0)]) (st' := []) (cs' := []) (fun _ => rfl) al0 ?_
        refine w_sg k270 8 (pc' := 94) (ls' := [(0, aR 48 0), (1, aI l1), (2, aI l2), (3, aI l3), (4, aI l4), (5, aI l5), (6, aI l6), (7, aI t0)]) (st' := [aI l6, aI (nI 8), aI (nI 24), aI t0, aI (gI Y.1 48 0 23), aR 60 0]) (cs' := []) (fun _ => rfl) al0 ?_
        obtain ⟨hc5, h⟩ := ck_some h
        refine w_sw k270 7 (Z := (sI Y 60 0 (ix (gI Y.1 48 0 23)) (((((t0 >>> (((nI 24) - ((nI 8) * (l6 - l6 / (nI 4) * (nI 4)))) &&& 31))).toInt8.toInt32)).toInt8.toInt32))) (pc' := 101) (ls' := [(0, aR 48 0), (1, aI l1), (2, aI l2), (3, aI l3), (4, aI l4), (5, aI l5), (6, aI l6), (7, aI t0)]) (st' := []) (cs' := [¬ (nI 4) = 0, vp_in (gI Y.1 48 0 23) 500, allw 60 0]) (fun _ => rfl) rfl (al2 (by decide) (al2 (vin hc5) (al1 rfl))) ?_
        replace h := wr_some h
        generalize (sI Y 60 0 (ix (gI Y.1 48 0 23)) (((((t0 >>> (((nI 24) - ((nI 8) * (l6 - l6 / (nI 4) * (nI 4)))) &&& 31))).toInt8.toInt32)).toInt8.toInt32)) = Y6 at h ⊢
        refine w_sw k270 6 (Z := (sI Y6 48 0 23 ((gI Y6.1 48 0 23) + (nI 1)))) (pc' := 111) (ls' := [(0, aR 48 0), (1, aI l1), (2, aI l2), (3, aI l3), (4, aI l4), (5, aI l5), (6, aI l6), (7, aI t0)]) (st' := []) (cs' := [allw 48 0]) (fun _ => rfl) rfl (al1 rfl) ?_
        replace h := wr_some h
        generalize (sI Y6 48 0 23 ((gI Y6.1 48 0 23) + (nI 1))) = Y7 at h ⊢
        refine w_sg k270 1 (pc' := 114) (ls' := [(0, aR 48 0), (1, aI l1), (2, aI l2), (3, aI l3), (4, aI l4), (5, aI l5), (6, aI (l6 + (nI 1))), (7, aI t0)]) (st' := []) (cs' := []) (fun _ => rfl) al0 ?_
        refine w_sg k270 1 (pc' := 23) (ls' := [(0, aR 48 0), (1, aI l1), (2, aI l2), (3, aI l3), (4, aI l4), (5, aI l5), (6, aI (l6 + (nI 1))), (7, aI t0)]) (st' := []) (cs' := []) (fun _ => rfl) al0 ?_
        refine w_ls [(0, aR 48 0), (1, aI l1), (2, aI l2), (3, aI l3), (4, aI l4), (5, aI l5), (6, aI (l6 + (nI 1)))] (lq_c rfl (lq_c rfl (lq_c rfl (lq_c rfl (lq_c rfl (lq_c rfl (lq_c rfl lq_n))))))) ?_
        obtain rfl := Option.some.inj h
        exact ih4 _ _ (lpn_l hn3)
      refine w_sg k270 2 (pc' := 27) (ls' := [(0, aR 48 0), (1, aI l1), (2, aI l2), (3, aI l3), (4, aI l4), (5, aI l5), (6, aI l6)]) (st' := [aI (nI 20), aI l6]) (cs' := []) (fun _ => rfl) al0 ?_
      refine w_icmp_ge k270 rfl (fun c => ?_) (fun c => ?_)
      · replace h := if_t c h
        refine w_sg k270 2 (pc' := 121) (ls' := [(0, aR 48 0), (1, aI l1), (2, aI l2), (3, aI l3), (4, aI l4), (5, aI l5), (6, aI l6)]) (st' := [aI (gI Y.1 48 0 23)]) (cs' := []) (fun _ => rfl) al0 ?_
        obtain rfl := Option.some.inj h
        obtain rfl := lpn_r hn3
        exact w_ireturn k270 ⟨rfl, rfl⟩
      · replace h := if_f c h
        refine w_sg k270 2 (pc' := 33) (ls' := [(0, aR 48 0), (1, aI l1), (2, aI l2), (3, aI l3), (4, aI l4), (5, aI l5), (6, aI l6)]) (st' := [aI (nI 4), aI l6]) (cs' := []) (fun _ => rfl) al0 ?_
        refine w_icmp_ge k270 rfl (fun c => ?_) (fun c => ?_)
        · replace h := if_t c h
          refine w_sg k270 2 (pc' := 44) (ls' := [(0, aR 48 0), (1, aI l1), (2, aI l2), (3, aI l3), (4, aI l4), (5, aI l5), (6, aI l6)]) (st' := [aI (nI 8), aI l6]) (cs' := []) (fun _ => rfl) al0 ?_
          refine w_icmp_ge k270 rfl (fun c => ?_) (fun c => ?_)
          · replace h := if_t c h
            refine w_sg k270 2 (pc' := 55) (ls' := [(0, aR 48 0), (1, aI l1), (2, aI l2), (3, aI l3), (4, aI l4), (5, aI l5), (6, aI l6)]) (st' := [aI (nI 12), aI l6]) (cs' := []) (fun _ => rfl) al0 ?_
            refine w_icmp_ge k270 rfl (fun c => ?_) (fun c => ?_)
            · replace h := if_t c h
              refine w_sg k270 2 (pc' := 66) (ls' := [(0, aR 48 0), (1, aI l1), (2, aI l2), (3, aI l3), (4, aI l4), (5, aI l5), (6, aI l6)]) (st' := [aI (nI 16), aI l6]) (cs' := []) (fun _ => rfl) al0 ?_
              refine w_icmp_ge k270 rfl (fun c => ?_) (fun c => ?_)
              · replace h := if_t c h
                refine w_sg k270 1 (pc' := 76) (ls' := [(0, aR 48 0), (1, aI l1), (2, aI l2), (3, aI l3), (4, aI l4), (5, aI l5), (6, aI l6)]) (st' := [aI l5]) (cs' := []) (fun _ => rfl) al0 ?_
                refine w_ls [(0, aR 48 0), (1, aI l1), (2, aI l2), (3, aI l3), (4, aI l4), (5, aI l5), (6, aI l6)] (lq_c rfl (lq_c rfl (lq_c rfl (lq_c rfl (lq_c rfl (lq_c rfl (lq_c rfl lq_n))))))) ?_
                exact J76_0 _ _ _ h
              · replace h := if_f c h
                refine w_sg k270 2 (pc' := 76) (ls' := [(0, aR 48 0), (1, aI l1), (2, aI l2), (3, aI l3), (4, aI l4), (5, aI l5), (6, aI l6)]) (st' := [aI l4]) (cs' := []) (fun _ => rfl) al0 ?_
                refine w_ls [(0, aR 48 0), (1, aI l1), (2, aI l2), (3, aI l3), (4, aI l4), (5, aI l5), (6, aI l6)] (lq_c rfl (lq_c rfl (lq_c rfl (lq_c rfl (lq_c rfl (lq_c rfl (lq_c rfl lq_n))))))) ?_
                exact J76_0 _ _ _ h
            · replace h := if_f c h
              refine w_sg k270 2 (pc' := 76) (ls' := [(0, aR 48 0), (1, aI l1), (2, aI l2), (3, aI l3), (4, aI l4), (5, aI l5), (6, aI l6)]) (st' := [aI l3]) (cs' := []) (fun _ => rfl) al0 ?_
              refine w_ls [(0, aR 48 0), (1, aI l1), (2, aI l2), (3, aI l3), (4, aI l4), (5, aI l5), (6, aI l6)] (lq_c rfl (lq_c rfl (lq_c rfl (lq_c rfl (lq_c rfl (lq_c rfl (lq_c rfl lq_n))))))) ?_
              exact J76_0 _ _ _ h
          · replace h := if_f c h
            refine w_sg k270 2 (pc' := 76) (ls' := [(0, aR 48 0), (1, aI l1), (2, aI l2), (3, aI l3), (4, aI l4), (5, aI l5), (6, aI l6)]) (st' := [aI l2]) (cs' := []) (fun _ => rfl) al0 ?_
            refine w_ls [(0, aR 48 0), (1, aI l1), (2, aI l2), (3, aI l3), (4, aI l4), (5, aI l5), (6, aI l6)] (lq_c rfl (lq_c rfl (lq_c rfl (lq_c rfl (lq_c rfl (lq_c rfl (lq_c rfl lq_n))))))) ?_
            exact J76_0 _ _ _ h
        · replace h := if_f c h
          refine w_sg k270 2 (pc' := 76) (ls' := [(0, aR 48 0), (1, aI l1), (2, aI l2), (3, aI l3), (4, aI l4), (5, aI l5), (6, aI l6)]) (st' := [aI l1]) (cs' := []) (fun _ => rfl) al0 ?_
          refine w_ls [(0, aR 48 0), (1, aI l1), (2, aI l2), (3, aI l3), (4, aI l4), (5, aI l5), (6, aI l6)] (lq_c rfl (lq_c rfl (lq_c rfl (lq_c rfl (lq_c rfl (lq_c rfl (lq_c rfl lq_n))))))) ?_
          exact J76_0 _ _ _ h
  refine w_sw k270 3 (Z := (sI Y 48 0 0 (nI 0))) (pc' := 5) (ls' := [(0, aR 48 0), (1, aI a1), (2, aI a2), (3, aI a3), (4, aI a4), (5, aI a5)]) (st' := []) (cs' := [allw 48 0]) (fun _ => rfl) rfl (al1 rfl) ?_
  replace h := wr_some h
  generalize (sI Y 48 0 0 (nI 0)) = Y1 at h ⊢
  refine w_sg k270 5 (pc' := 15) (ls' := [(0, aR 48 0), (1, aI a1), (2, aI a2), (3, aI a3), (4, aI a4), (5, aI a5)]) (st' := [aI (nI 500), aI ((gI Y1.1 48 0 23) + (nI 20))]) (cs' := []) (fun _ => rfl) al0 ?_
  refine w_icmp_le k270 rfl (fun c => ?_) (fun c => ?_)
  · replace h := if_t c h
    refine w_sg k270 2 (pc' := 23) (ls' := [(0, aR 48 0), (1, aI a1), (2, aI a2), (3, aI a3), (4, aI a4), (5, aI a5), (6, aI (nI 0))]) (st' := []) (cs' := []) (fun _ => rfl) al0 ?_
    refine w_ls [(0, aR 48 0), (1, aI a1), (2, aI a2), (3, aI a3), (4, aI a4), (5, aI a5), (6, aI (nI 0))] (lq_c rfl (lq_c rfl (lq_c rfl (lq_c rfl (lq_c rfl (lq_c rfl (lq_c rfl lq_n))))))) ?_
    exact L23_0 _ _ _ _ _ _ _ _ h
  · replace h := if_f c h
    refine w_sg k270 1 (pc' := 19) (ls' := [(0, aR 48 0), (1, aI a1), (2, aI a2), (3, aI a3), (4, aI a4), (5, aI a5)]) (st' := [aI (-1 : Int32)]) (cs' := []) (fun _ => rfl) al0 ?_
    obtain rfl := Option.some.inj h
    exact w_ireturn k270 ⟨rfl, rfl⟩
set_option maxRecDepth 20000 in
set_option maxHeartbeats 4000000 in
/-- BallotBusModel.truncate -/
theorem sn_271 (a1 : Int32) {Y : Sm} (v : Int32) (Z : Sm) (h : fn_271 a1 Y = some (v, Z)) : Mt 5 0 271 [aR 48 0, aI a1] Y (Rt (some (aI v)) Z) nX := by
  refine Mt_of [(0, aR 48 0), (1, aI a1)] ?_
  generalize ho : (v, Z) = o at h
  have hv9 : v = o.1 := congrArg Prod.fst ho
  have hZ9 : Z = o.2 := congrArg Prod.snd ho
  clear ho
  subst hv9 hZ9
  unfold fn_271 at h
  refine w_sw k271 3 (Z := (sI Y 48 0 0 (nI 0))) (pc' := 5) (ls' := [(0, aR 48 0), (1, aI a1)]) (st' := []) (cs' := [allw 48 0]) (fun _ => rfl) rfl (al1 rfl) ?_
  replace h := wr_some h
  generalize (sI Y 48 0 0 (nI 0)) = Y1 at h ⊢
  refine w_sg k271 6 (pc' := 13) (ls' := [(0, aR 48 0), (1, aI a1)]) (st' := [aJ ((gI Y1.1 48 0 23).toInt64), aJ (Int64.ofNat 0), aJ ((a1).toInt64)]) (cs' := []) (fun _ => rfl) al0 ?_
  obtain ⟨v4, Y2, hv3, h⟩ := bd_some h
  refine w_cS1 k271 (sn_166 _ _ _ _ _ hv3) rfl (st := []) rfl ?_ (fun _ _ q => q.elim)
  refine w_if_ne k271 rfl (fun c => ?_) (fun c => ?_)
  · replace h := if_f c h
    refine w_sw k271 3 (Z := (sI Y2 48 0 23 a1)) (pc' := 26) (ls' := [(0, aR 48 0), (1, aI a1)]) (st' := []) (cs' := [allw 48 0]) (fun _ => rfl) rfl (al1 rfl) ?_
    replace h := wr_some h
    generalize (sI Y2 48 0 23 a1) = Y5 at h ⊢
    refine w_sg k271 1 (pc' := 27) (ls' := [(0, aR 48 0), (1, aI a1)]) (st' := [aI (nI 1)]) (cs' := []) (fun _ => rfl) al0 ?_
    obtain rfl := Option.some.inj h
    exact w_zreturn k271 (Or.inr rfl) ⟨rfl, rfl⟩
  · replace h := if_t c h
    refine w_sg k271 1 (pc' := 20) (ls' := [(0, aR 48 0), (1, aI a1)]) (st' := [aI (nI 0)]) (cs' := []) (fun _ => rfl) al0 ?_
    obtain rfl := Option.some.inj h
    exact w_zreturn k271 (Or.inl rfl) ⟨rfl, rfl⟩
set_option maxRecDepth 20000 in
set_option maxHeartbeats 4000000 in
/-- BallotBusModel.clears -/
theorem sn_268 {Y : Sm} (v : Unit) (Z : Sm) (h : fn_268 Y = some (v, Z)) : Mt 4 0 268 [aR 48 0] Y (Rt none Z) nX := by
  refine Mt_of [(0, aR 48 0)] ?_
  generalize ho : (v, Z) = o at h
  have hv9 : v = o.1 := congrArg Prod.fst ho
  have hZ9 : Z = o.2 := congrArg Prod.snd ho
  clear ho
  subst hv9 hZ9
  unfold fn_268 at h
  have L54_0 : ∀ (n : Nat) (l1 : Int32) (Y : Sm), lp (fun s => fn_268_L54 s.1 s.2) n (l1, Y) = some o → Wm 4 0 268 0 54 [(0, aR 48 0), (1, aI l1)] [] Y (Rt none o.2) nX := by
    intro n
    induction n with
    | zero => intro l1 Y h; cases h
    | succ n ih11 =>
      intro l1 Y h
      obtain ⟨q9, h, hn10⟩ := lp_succ h
      replace h : fn_268_L54 l1 Y = some q9 := h
      unfold fn_268_L54 at h
      refine w_sg k268 2 (pc' := 58) (ls' := [(0, aR 48 0), (1, aI l1)]) (st' := [aI (nI 718), aI l1]) (cs' := []) (fun _ => rfl) al0 ?_
      refine w_icmp_ge k268 rfl (fun c => ?_) (fun c => ?_)
      · replace h := if_t c h
        refine w_sw k268 5 (Z := (sI Y 53 0 8 (-1 : Int32))) (pc' := 82) (ls' := [(0, aR 48 0), (1, aI l1)]) (st' := []) (cs' := [vp_in (nI 8) 718, allw 53 0]) (fun _ => rfl) rfl (al2 (vin rfl) (al1 rfl)) ?_
        replace h := wr_some h
        generalize (sI Y 53 0 8 (-1 : Int32)) = Y12 at h ⊢
        obtain rfl := Option.some.inj h
        obtain rfl := lpn_r hn10
        exact w_return k268 ⟨rfl, rfl⟩
      · replace h := if_f c h
        obtain ⟨hc13, h⟩ := ck_some h
        refine w_sw k268 5 (Z := (sI Y 53 0 (ix l1) (nI 0))) (pc' := 68) (ls' := [(0, aR 48 0), (1, aI l1)]) (st' := []) (cs' := [vp_in l1 718, allw 53 0]) (fun _ => rfl) rfl (al2 (vin hc13) (al1 rfl)) ?_
        replace h := wr_some h
        generalize (sI Y 53 0 (ix l1) (nI 0)) = Y14 at h ⊢
        refine w_sg k268 1 (pc' := 71) (ls' := [(0, aR 48 0), (1, aI (l1 + (nI 1)))]) (st' := []) (cs' := []) (fun _ => rfl) al0 ?_
        refine w_sg k268 1 (pc' := 54) (ls' := [(0, aR 48 0), (1, aI (l1 + (nI 1)))]) (st' := []) (cs' := []) (fun _ => rfl) al0 ?_
        refine w_ls [(0, aR 48 0), (1, aI (l1 + (nI 1)))] (lq_c rfl (lq_c rfl lq_n)) ?_
        obtain rfl := Option.some.inj h
        exact ih11 _ _ (lpn_l hn10)
  refine w_sw k268 3 (Z := (sI Y 48 0 33 (nI 0))) (pc' := 5) (ls' := [(0, aR 48 0)]) (st' := []) (cs' := [allw 48 0]) (fun _ => rfl) rfl (al1 rfl) ?_
  replace h := wr_some h
  generalize (sI Y 48 0 33 (nI 0)) = Y1 at h ⊢
  refine w_sw k268 3 (Z := (sI Y1 48 0 34 (nI 0))) (pc' := 10) (ls' := [(0, aR 48 0)]) (st' := []) (cs' := [allw 48 0]) (fun _ => rfl) rfl (al1 rfl) ?_
  replace h := wr_some h
  generalize (sI Y1 48 0 34 (nI 0)) = Y2 at h ⊢
  refine w_sw k268 3 (Z := (sI Y2 48 0 35 (nI 0))) (pc' := 15) (ls' := [(0, aR 48 0)]) (st' := []) (cs' := [allw 48 0]) (fun _ => rfl) rfl (al1 rfl) ?_
  replace h := wr_some h
  generalize (sI Y2 48 0 35 (nI 0)) = Y3 at h ⊢
  refine w_sw k268 5 (Z := (sI Y3 61 0 0 (nI 3))) (pc' := 22) (ls' := [(0, aR 48 0)]) (st' := []) (cs' := [vp_in (nI 0) 5, allw 61 0]) (fun _ => rfl) rfl (al2 (vin rfl) (al1 rfl)) ?_
  replace h := wr_some h
  generalize (sI Y3 61 0 0 (nI 3)) = Y4 at h ⊢
  refine w_sw k268 5 (Z := (sI Y4 61 0 1 (nI 6))) (pc' := 30) (ls' := [(0, aR 48 0)]) (st' := []) (cs' := [vp_in (nI 1) 5, allw 61 0]) (fun _ => rfl) rfl (al2 (vin rfl) (al1 rfl)) ?_
  replace h := wr_some h
  generalize (sI Y4 61 0 1 (nI 6)) = Y5 at h ⊢
  refine w_sw k268 5 (Z := (sI Y5 61 0 2 (nI 10))) (pc' := 38) (ls' := [(0, aR 48 0)]) (st' := []) (cs' := [vp_in (nI 2) 5, allw 61 0]) (fun _ => rfl) rfl (al2 (vin rfl) (al1 rfl)) ?_
  replace h := wr_some h
  generalize (sI Y5 61 0 2 (nI 10)) = Y6 at h ⊢
  refine w_sw k268 5 (Z := (sI Y6 61 0 3 (nI 0))) (pc' := 45) (ls' := [(0, aR 48 0)]) (st' := []) (cs' := [vp_in (nI 3) 5, allw 61 0]) (fun _ => rfl) rfl (al2 (vin rfl) (al1 rfl)) ?_
  replace h := wr_some h
  generalize (sI Y6 61 0 3 (nI 0)) = Y7 at h ⊢
  refine w_sw k268 5 (Z := (sI Y7 61 0 4 (nI 3))) (pc' := 52) (ls' := [(0, aR 48 0)]) (st' := []) (cs' := [vp_in (nI 4) 5, allw 61 0]) (fun _ => rfl) rfl (al2 (vin rfl) (al1 rfl)) ?_
  replace h := wr_some h
  generalize (sI Y7 61 0 4 (nI 3)) = Y8 at h ⊢
  refine w_sg k268 2 (pc' := 54) (ls' := [(0, aR 48 0), (1, aI (nI 0))]) (st' := []) (cs' := []) (fun _ => rfl) al0 ?_
  refine w_ls [(0, aR 48 0), (1, aI (nI 0))] (lq_c rfl (lq_c rfl lq_n)) ?_
  exact L54_0 _ _ _ h
set_option maxRecDepth 20000 in
set_option maxHeartbeats 4000000 in
/-- BallotBusModel.here -/
theorem sn_272 (a1 : Int32) {Y : Sm} (v : Int32) (Z : Sm) (h : fn_272 a1 Y = some (v, Z)) : Mt 4 0 272 [aR 48 0, aI a1] Y (Rt (some (aI v)) Z) nX := by
  refine Mt_of [(0, aR 48 0), (1, aI a1)] ?_
  generalize ho : (v, Z) = o at h
  have hv9 : v = o.1 := congrArg Prod.fst ho
  have hZ9 : Z = o.2 := congrArg Prod.snd ho
  clear ho
  subst hv9 hZ9
  unfold fn_272 at h
  refine w_sg k272 3 (pc' := 5) (ls' := [(0, aR 48 0), (1, aI a1)]) (st' := [aI (gI Y.1 48 0 24), aI a1]) (cs' := []) (fun _ => rfl) al0 ?_
  refine w_icmp_ge k272 rfl (fun c => ?_) (fun c => ?_)
  · replace h := if_t c h
    refine w_sg k272 1 (pc' := 22) (ls' := [(0, aR 48 0), (1, aI a1)]) (st' := [aI (-1 : Int32)]) (cs' := []) (fun _ => rfl) al0 ?_
    obtain rfl := Option.some.inj h
    exact w_ireturn k272 ⟨rfl, rfl⟩
  · replace h := if_f c h
    obtain ⟨hc1, h⟩ := ck_some h
    refine w_sg k272 7 (pc' := 22) (ls' := [(0, aR 48 0), (1, aI a1)]) (st' := [aI ((gI Y.1 60 0 (ix a1)) &&& (nI 255))]) (cs' := [vp_in a1 500]) (fun _ => rfl) (al1 (vin hc1)) ?_
    obtain rfl := Option.some.inj h
    exact w_ireturn k272 ⟨rfl, rfl⟩
set_option maxRecDepth 20000 in
set_option maxHeartbeats 4000000 in
/-- BallotBusModel.isLetter -/
theorem sn_273 (a1 : Int32) {Y : Sm} (v : Int32) (Z : Sm) (h : fn_273 a1 Y = some (v, Z)) : Mt 5 0 273 [aR 48 0, aI a1] Y (Rt (some (aI v)) Z) nX := by
  refine Mt_of [(0, aR 48 0), (1, aI a1)] ?_
  generalize ho : (v, Z) = o at h
  have hv9 : v = o.1 := congrArg Prod.fst ho
  have hZ9 : Z = o.2 := congrArg Prod.snd ho
  clear ho
  subst hv9 hZ9
  unfold fn_273 at h
  refine w_sg k273 2 (pc' := 2) (ls' := [(0, aR 48 0), (1, aI a1)]) (st' := [aI a1, aR 48 0]) (cs' := []) (fun _ => rfl) al0 ?_
  obtain ⟨v3, Y1, hv2, h⟩ := bd_some h
  refine w_cV1 k273 (sn_272 _ _ _ hv2) rfl (st := []) rfl ?_ (fun _ _ q => q.elim)
  refine w_sg k273 3 (pc' := 12) (ls' := [(0, aR 48 0), (1, aI a1)]) (st' := [aJ (((nI 122)).toInt64), aJ (((nI 97)).toInt64), aJ ((v3).toInt64)]) (cs' := []) (fun _ => rfl) al0 ?_
  obtain ⟨v6, Y4, hv5, h⟩ := bd_some h
  refine w_cS1 k273 (sn_166 _ _ _ _ _ hv5) rfl (st := []) rfl ?_ (fun _ _ q => q.elim)
  obtain ⟨hc7, h⟩ := ck_some h
  obtain rfl := Option.some.inj h
  exact w_zreturn k273 (bz_or hc7) ⟨rfl, rfl⟩
set_option maxRecDepth 20000 in
set_option maxHeartbeats 4000000 in
/-- BallotBusModel.wordHere -/
theorem sn_275 {Y : Sm} (v : Int32) (Z : Sm) (h : fn_275 Y = some (v, Z)) : Mt 4 0 275 [aR 48 0] Y (Rt (some (aI v)) Z) nX := by
  refine Mt_of [(0, aR 48 0)] ?_
  generalize ho : (v, Z) = o at h
  have hv9 : v = o.1 := congrArg Prod.fst ho
  have hZ9 : Z = o.2 := congrArg Prod.snd ho
  clear ho
  subst hv9 hZ9
  unfold fn_275 at h
  have L4_0 : ∀ (n : Nat) (l1 : Int32) (l2 : Int32) (Y : Sm), lp (fun s => fn_275_L4 s.1 s.2.1 s.2.2) n (l1, l2, Y) = some o → Wm 4 0 275 0 4 [(0, aR 48 0), (1, aI l1), (2, aI l2)] [] Y (Rt (some (aI o.1)) o.2) nX := by
    intro n
    induction n with
    | zero => intro l1 l2 Y h; cases h
    | succ n ih3 =>
      intro l1 l2 Y h
      obtain ⟨q1, h, hn2⟩ := lp_succ h
      replace h : fn_275_L4 l1 l2 Y = some q1 := h
      unfold fn_275_L4 at h
      have L16_0 : ∀ (l1 : Int32) (l2 : Int32) (n : Nat) (l3 : Int32) (Y : Sm) (e7 : (Int32 × Sm) ⊕ ((Int32 × Int32 × Sm) ⊕ (Int32 × Sm))), lp (fun s => fn_275_L16_d1 l1 l2 s.1 s.2) n (l3, Y) = some e7 → (∀ s9 : (Int32 × Sm), e7 = .inl s9 → Wm 4 0 275 0 73 [(0, aR 48 0), (1, aI l1), (2, aI l2), (3, aI s9.1)] [] s9.2 (Rt (some (aI o.1)) o.2) nX) → (∀ r, e7 = .inr r → r = q1) → Wm 4 0 275 0 16 [(0, aR 48 0), (1, aI l1), (2, aI l2), (3, aI l3)] [] Y (Rt (some (aI o.1)) o.2) nX := by
        intro l1 l2 n
        induction n with
        | zero => intro l3 Y e7 h; cases h
        | succ n ih6 =>
          intro l3 Y e7 h kE8 kR9
          obtain ⟨q4, h, hn5⟩ := lp_succ h
          replace h : fn_275_L16_d1 l1 l2 l3 Y = some q4 := h
          unfold fn_275_L16_d1 at h
          obtain ⟨hc10, h⟩ := ck_some h
          refine w_sg k275 6 (pc' := 27) (ls' := [(0, aR 48 0), (1, aI l1), (2, aI l2), (3, aI l3)]) (st' := [aI (nI 32), aI (schr 33 (ix (l2 + l3)))]) (cs' := [vp_in (l2 + l3) (slen 33)]) (fun _ => rfl) (al1 (vin hc10)) ?_
          refine w_icmp_eq k275 rfl (fun c => ?_) (fun c => ?_)
          · replace h := if_t c h
            refine w_ls [(0, aR 48 0), (1, aI l1), (2, aI l2), (3, aI l3)] (lq_c rfl (lq_c rfl (lq_c rfl (lq_c rfl lq_n)))) ?_
            obtain rfl := Option.some.inj h
            obtain rfl := lpn_r hn5
            exact kE8 (l3, Y) rfl
          · replace h := if_f c h
            refine w_sg k275 6 (pc' := 40) (ls' := [(0, aR 48 0), (1, aI l1), (2, aI l2), (3, aI l3)]) (st' := [aI (gI Y.1 48 0 25), aI ((gI Y.1 48 0 26) + l3)]) (cs' := []) (fun _ => rfl) al0 ?_
            refine w_icmp_ge k275 rfl (fun c => ?_) (fun c => ?_)
            · replace h := if_t c h
              refine w_ls [(0, aR 48 0), (1, aI l1), (2, aI l2), (3, aI l3)] (lq_c rfl (lq_c rfl (lq_c rfl (lq_c rfl lq_n)))) ?_
              obtain rfl := Option.some.inj h
              obtain rfl := lpn_r hn5
              exact kE8 (l3, Y) rfl
            · replace h := if_f c h
              obtain ⟨hc11, h⟩ := ck_some h
              refine w_sg k275 8 (pc' := 57) (ls' := [(0, aR 48 0), (1, aI l1), (2, aI l2), (3, aI l3)]) (st' := [aS 33, aI (gI Y.1 60 0 (ix ((gI Y.1 48 0 26) + l3)))]) (cs' := [vp_in ((gI Y.1 48 0 26) + l3) 500]) (fun _ => rfl) (al1 (vin hc11)) ?_
              refine w_sg k275 4 (pc' := 63) (ls' := [(0, aR 48 0), (1, aI l1), (2, aI l2), (3, aI l3)]) (st' := [aI (schr 33 (ix (l2 + l3))), aI (gI Y.1 60 0 (ix ((gI Y.1 48 0 26) + l3)))]) (cs' := [vp_in (l2 + l3) (slen 33)]) (fun _ => rfl) (al1 (vin hc10)) ?_
              refine w_icmp_ne k275 rfl (fun c => ?_) (fun c => ?_)
              · replace h := if_f c h
                refine w_ls [(0, aR 48 0), (1, aI l1), (2, aI l2), (3, aI l3)] (lq_c rfl (lq_c rfl (lq_c rfl (lq_c rfl lq_n)))) ?_
                obtain rfl := Option.some.inj h
                obtain rfl := lpn_r hn5
                exact kE8 (l3, Y) rfl
              · replace h := if_t c h
                refine w_sg k275 4 (pc' := 70) (ls' := [(0, aR 48 0), (1, aI l1), (2, aI l2), (3, aI (l3 + (nI 1)))]) (st' := []) (cs' := []) (fun _ => rfl) al0 ?_
                refine w_sg k275 1 (pc' := 16) (ls' := [(0, aR 48 0), (1, aI l1), (2, aI l2), (3, aI (l3 + (nI 1)))]) (st' := []) (cs' := []) (fun _ => rfl) al0 ?_
                refine w_ls [(0, aR 48 0), (1, aI l1), (2, aI l2), (3, aI (l3 + (nI 1)))] (lq_c rfl (lq_c rfl (lq_c rfl (lq_c rfl lq_n)))) ?_
                obtain rfl := Option.some.inj h
                exact ih6 _ _ _ (lpn_l hn5) kE8 kR9
      have L102_0 : ∀ (l1 : Int32) (n : Nat) (l2 : Int32) (Y : Sm) (e16 : (Int32 × Sm) ⊕ ((Int32 × Int32 × Sm) ⊕ (Int32 × Sm))), lp (fun s => fn_275_L102_d1 l1 s.1 s.2) n (l2, Y) = some e16 → (∀ s9 : (Int32 × Sm), e16 = .inl s9 → Wm 4 0 275 0 121 [(0, aR 48 0), (1, aI l1), (2, aI s9.1)] [] s9.2 (Rt (some (aI o.1)) o.2) nX) → (∀ r, e16 = .inr r → r = q1) → Wm 4 0 275 0 102 [(0, aR 48 0), (1, aI l1), (2, aI l2)] [] Y (Rt (some (aI o.1)) o.2) nX := by
        intro l1 n
        induction n with
        | zero => intro l2 Y e16 h; cases h
        | succ n ih15 =>
          intro l2 Y e16 h kE17 kR18
          obtain ⟨q13, h, hn14⟩ := lp_succ h
          replace h : fn_275_L102_d1 l1 l2 Y = some q13 := h
          unfold fn_275_L102_d1 at h
          obtain ⟨hc19, h⟩ := ck_some h
          refine w_sg k275 4 (pc' := 111) (ls' := [(0, aR 48 0), (1, aI l1), (2, aI l2)]) (st' := [aI (nI 32), aI (schr 33 (ix l2))]) (cs' := [vp_in l2 (slen 33)]) (fun _ => rfl) (al1 (vin hc19)) ?_
          refine w_icmp_eq k275 rfl (fun c => ?_) (fun c => ?_)
          · replace h := if_t c h
            refine w_ls [(0, aR 48 0), (1, aI l1), (2, aI l2)] (lq_c rfl (lq_c rfl (lq_c rfl lq_n))) ?_
            obtain rfl := Option.some.inj h
            obtain rfl := lpn_r hn14
            exact kE17 (l2, Y) rfl
          · replace h := if_f c h
            refine w_sg k275 4 (pc' := 118) (ls' := [(0, aR 48 0), (1, aI l1), (2, aI (l2 + (nI 1)))]) (st' := []) (cs' := []) (fun _ => rfl) al0 ?_
            refine w_sg k275 1 (pc' := 102) (ls' := [(0, aR 48 0), (1, aI l1), (2, aI (l2 + (nI 1)))]) (st' := []) (cs' := []) (fun _ => rfl) al0 ?_
            refine w_ls [(0, aR 48 0), (1, aI l1), (2, aI (l2 + (nI 1)))] (lq_c rfl (lq_c rfl (lq_c rfl lq_n))) ?_
            obtain rfl := Option.some.inj h
            exact ih15 _ _ _ (lpn_l hn14) kE17 kR18
      have J121_0 : ∀ (l1 : Int32) (l2 : Int32) (Y : Sm), fn_275_J121_d1 l1 l2 Y = some q1 → Wm 4 0 275 0 121 [(0, aR 48 0), (1, aI l1), (2, aI l2)] [] Y (Rt (some (aI o.1)) o.2) nX := by
        intro l1 l2 Y h
        unfold fn_275_J121_d1 at h
        refine w_sg k275 4 (pc' := 125) (ls' := [(0, aR 48 0), (1, aI l1), (2, aI (l2 + (nI 1)))]) (st' := []) (cs' := []) (fun _ => rfl) al0 ?_
        refine w_sg k275 4 (pc' := 129) (ls' := [(0, aR 48 0), (1, aI (l1 + (nI 1))), (2, aI (l2 + (nI 1)))]) (st' := []) (cs' := []) (fun _ => rfl) al0 ?_
        refine w_sg k275 1 (pc' := 4) (ls' := [(0, aR 48 0), (1, aI (l1 + (nI 1))), (2, aI (l2 + (nI 1)))]) (st' := []) (cs' := []) (fun _ => rfl) al0 ?_
        refine w_ls [(0, aR 48 0), (1, aI (l1 + (nI 1))), (2, aI (l2 + (nI 1)))] (lq_c rfl (lq_c rfl (lq_c rfl lq_n))) ?_
        obtain rfl := Option.some.inj h
        exact ih3 _ _ _ (lpn_l hn2)
      have J73_0 : ∀ (l1 : Int32) (l2 : Int32) (l3 : Int32) (Y : Sm), fn_275_J73_d1 l1 l2 l3 Y = some q1 → Wm 4 0 275 0 73 [(0, aR 48 0), (1, aI l1), (2, aI l2), (3, aI l3)] [] Y (Rt (some (aI o.1)) o.2) nX := by
        intro l1 l2 l3 Y h
        unfold fn_275_J73_d1 at h
        obtain ⟨hc12, h⟩ := ck_some h
        refine w_sg k275 6 (pc' := 84) (ls' := [(0, aR 48 0), (1, aI l1), (2, aI l2), (3, aI l3)]) (st' := [aI (nI 32), aI (schr 33 (ix (l2 + l3)))]) (cs' := [vp_in (l2 + l3) (slen 33)]) (fun _ => rfl) (al1 (vin hc12)) ?_
        refine w_icmp_ne k275 rfl (fun c => ?_) (fun c => ?_)
        · replace h := if_f c h
          obtain ⟨e22, hl20, hx21⟩ := exd_some h
          refine w_ls [(0, aR 48 0), (1, aI l1), (2, aI l2)] (lq_c rfl (lq_c rfl (lq_c rfl lq_n))) ?_
          refine L102_0 _ _ _ _ e22 hl20 (fun s9 hs9 => ?_) (fun r9 hr9 => ?_)
          · subst hs9
            replace h : fn_275_J121_d1 l1 s9.1 s9.2 = some q1 := hx21
            refine w_ls [(0, aR 48 0), (1, aI l1), (2, aI s9.1)] (lq_c rfl (lq_c rfl (lq_c rfl lq_n))) ?_
            exact J121_0 _ _ _ h
          · subst hr9
            exact hx21
        · replace h := if_t c h
          refine w_sg k275 6 (pc' := 97) (ls' := [(0, aR 48 0), (1, aI l1), (2, aI l2), (3, aI l3)]) (st' := [aI (gI Y.1 48 0 25), aI ((gI Y.1 48 0 26) + l3)]) (cs' := []) (fun _ => rfl) al0 ?_
          refine w_icmp_ne k275 rfl (fun c => ?_) (fun c => ?_)
          · replace h := if_f c h
            obtain ⟨e25, hl23, hx24⟩ := exd_some h
            refine w_ls [(0, aR 48 0), (1, aI l1), (2, aI l2)] (lq_c rfl (lq_c rfl (lq_c rfl lq_n))) ?_
            refine L102_0 _ _ _ _ e25 hl23 (fun s9 hs9 => ?_) (fun r9 hr9 => ?_)
            · subst hs9
              replace h : fn_275_J121_d1 l1 s9.1 s9.2 = some q1 := hx24
              refine w_ls [(0, aR 48 0), (1, aI l1), (2, aI s9.1)] (lq_c rfl (lq_c rfl (lq_c rfl lq_n))) ?_
              exact J121_0 _ _ _ h
            · subst hr9
              exact hx24
          · replace h := if_t c h
            refine w_sg k275 1 (pc' := 101) (ls' := [(0, aR 48 0), (1, aI l1), (2, aI l2), (3, aI l3)]) (st' := [aI l1]) (cs' := []) (fun _ => rfl) al0 ?_
            obtain rfl := Option.some.inj h
            obtain rfl := lpn_r hn2
            exact w_ireturn k275 ⟨rfl, rfl⟩
      refine w_sg k275 3 (pc' := 11) (ls' := [(0, aR 48 0), (1, aI l1), (2, aI l2)]) (st' := [aI (nI (slen 33)), aI l2]) (cs' := []) (fun _ => rfl) al0 ?_
      refine w_icmp_ge k275 rfl (fun c => ?_) (fun c => ?_)
      · replace h := if_t c h
        refine w_sg k275 1 (pc' := 133) (ls' := [(0, aR 48 0), (1, aI l1), (2, aI l2)]) (st' := [aI (-1 : Int32)]) (cs' := []) (fun _ => rfl) al0 ?_
        obtain rfl := Option.some.inj h
        obtain rfl := lpn_r hn2
        exact w_ireturn k275 ⟨rfl, rfl⟩
      · replace h := if_f c h
        refine w_sg k275 2 (pc' := 16) (ls' := [(0, aR 48 0), (1, aI l1), (2, aI l2), (3, aI (nI 0))]) (st' := []) (cs' := []) (fun _ => rfl) al0 ?_
        obtain ⟨e28, hl26, hx27⟩ := exd_some h
        refine w_ls [(0, aR 48 0), (1, aI l1), (2, aI l2), (3, aI (nI 0))] (lq_c rfl (lq_c rfl (lq_c rfl (lq_c rfl lq_n)))) ?_
        refine L16_0 _ _ _ _ _ e28 hl26 (fun s9 hs9 => ?_) (fun r9 hr9 => ?_)
        · subst hs9
          replace h : fn_275_J73_d1 l1 l2 s9.1 s9.2 = some q1 := hx27
          refine w_ls [(0, aR 48 0), (1, aI l1), (2, aI l2), (3, aI s9.1)] (lq_c rfl (lq_c rfl (lq_c rfl (lq_c rfl lq_n)))) ?_
          exact J73_0 _ _ _ _ h
        · subst hr9
          exact hx27
  refine w_sg k275 2 (pc' := 2) (ls' := [(0, aR 48 0), (1, aI (nI 0))]) (st' := []) (cs' := []) (fun _ => rfl) al0 ?_
  refine w_sg k275 2 (pc' := 4) (ls' := [(0, aR 48 0), (1, aI (nI 0)), (2, aI (nI 0))]) (st' := []) (cs' := []) (fun _ => rfl) al0 ?_
  refine w_ls [(0, aR 48 0), (1, aI (nI 0)), (2, aI (nI 0))] (lq_c rfl (lq_c rfl (lq_c rfl lq_n))) ?_
  exact L4_0 _ _ _ _ h
set_option maxRecDepth 20000 in
set_option maxHeartbeats 4000000 in
/-- BallotBusModel.next -/
theorem sn_274 {Y : Sm} (v : Unit) (Z : Sm) (h : fn_274 Y = some (v, Z)) : Mt 6 0 274 [aR 48 0] Y (Rt none Z) nX := by
  refine Mt_of [(0, aR 48 0)] ?_
  generalize ho : (v, Z) = o at h
  have hv9 : v = o.1 := congrArg Prod.fst ho
  have hZ9 : Z = o.2 := congrArg Prod.snd ho
  clear ho
  subst hv9 hZ9
  unfold fn_274 at h
  have L0_0 : ∀ (n : Nat) (Y : Sm) (e4 : (Sm) ⊕ (Unit × Sm)), lp (fun s => fn_274_L0 s) n (Y) = some e4 → (∀ s9 : (Sm), e4 = .inl s9 → Wm 6 0 274 0 39 [(0, aR 48 0)] [] s9 (Rt none o.2) nX) → (∀ r, e4 = .inr r → r = o) → Wm 6 0 274 0 0 [(0, aR 48 0)] [] Y (Rt none o.2) nX := by
    intro n
    induction n with
    | zero => intro Y e4 h; cases h
    | succ n ih3 =>
      intro Y e4 h kE5 kR6
      obtain ⟨q1, h, hn2⟩ := lp_succ h
      replace h : fn_274_L0 Y = some q1 := h
      unfold fn_274_L0 at h
      refine w_sg k274 3 (pc' := 5) (ls' := [(0, aR 48 0)]) (st' := [aI (gI Y.1 48 0 25), aR 48 0]) (cs' := []) (fun _ => rfl) al0 ?_
      obtain ⟨v9, Y7, hv8, h⟩ := bd_some h
      refine w_cV1 k274 (sn_272 _ _ _ hv8) rfl (st := []) rfl ?_ (fun _ _ q => q.elim)
      refine w_sg k274 1 (pc' := 10) (ls' := [(0, aR 48 0)]) (st' := [aI (nI 32), aI v9]) (cs' := []) (fun _ => rfl) al0 ?_
      refine w_icmp_eq k274 rfl (fun c => ?_) (fun c => ?_)
      · replace h := if_t c h
        refine w_sw k274 6 (Z := (sI Y7 48 0 25 ((gI Y7.1 48 0 25) + (nI 1)))) (pc' := 36) (ls' := [(0, aR 48 0)]) (st' := []) (cs' := [allw 48 0]) (fun _ => rfl) rfl (al1 rfl) ?_
        replace h := wr_some h
        generalize (sI Y7 48 0 25 ((gI Y7.1 48 0 25) + (nI 1))) = Y10 at h ⊢
        refine w_sg k274 1 (pc' := 0) (ls' := [(0, aR 48 0)]) (st' := []) (cs' := []) (fun _ => rfl) al0 ?_
        refine w_ls [(0, aR 48 0)] (lq_c rfl lq_n) ?_
        obtain rfl := Option.some.inj h
        exact ih3 _ _ (lpn_l hn2) kE5 kR6
      · replace h := if_f c h
        refine w_sg k274 3 (pc' := 18) (ls' := [(0, aR 48 0)]) (st' := [aI (gI Y7.1 48 0 25), aR 48 0]) (cs' := []) (fun _ => rfl) al0 ?_
        obtain ⟨v13, Y11, hv12, h⟩ := bd_some h
        refine w_cV1 k274 (sn_272 _ _ _ hv12) rfl (st := []) rfl ?_ (fun _ _ q => q.elim)
        refine w_sg k274 1 (pc' := 23) (ls' := [(0, aR 48 0)]) (st' := [aI (nI 10), aI v13]) (cs' := []) (fun _ => rfl) al0 ?_
        refine w_icmp_ne k274 rfl (fun c => ?_) (fun c => ?_)
        · replace h := if_f c h
          refine w_ls [(0, aR 48 0)] (lq_c rfl lq_n) ?_
          obtain rfl := Option.some.inj h
          obtain rfl := lpn_r hn2
          exact kE5 (Y11) rfl
        · replace h := if_t c h
          refine w_sw k274 6 (Z := (sI Y11 48 0 25 ((gI Y11.1 48 0 25) + (nI 1)))) (pc' := 36) (ls' := [(0, aR 48 0)]) (st' := []) (cs' := [allw 48 0]) (fun _ => rfl) rfl (al1 rfl) ?_
          replace h := wr_some h
          generalize (sI Y11 48 0 25 ((gI Y11.1 48 0 25) + (nI 1))) = Y14 at h ⊢
          refine w_sg k274 1 (pc' := 0) (ls' := [(0, aR 48 0)]) (st' := []) (cs' := []) (fun _ => rfl) al0 ?_
          refine w_ls [(0, aR 48 0)] (lq_c rfl lq_n) ?_
          obtain rfl := Option.some.inj h
          exact ih3 _ _ (lpn_l hn2) kE5 kR6
  have L184_0 : ∀ (n : Nat) (Y : Sm) (e32 : (Sm) ⊕ (Unit × Sm)), lp (fun s => fn_274_L184 s) n (Y) = some e32 → (∀ s9 : (Sm), e32 = .inl s9 → Wm 6 0 274 0 254 [(0, aR 48 0)] [] s9 (Rt none o.2) nX) → (∀ r, e32 = .inr r → r = o) → Wm 6 0 274 0 184 [(0, aR 48 0)] [] Y (Rt none o.2) nX := by
    intro n
    induction n with
    | zero => intro Y e32 h; cases h
    | succ n ih31 =>
      intro Y e32 h kE33 kR34
      obtain ⟨q29, h, hn30⟩ := lp_succ h
      replace h : fn_274_L184 Y = some q29 := h
      unfold fn_274_L184 at h
      refine w_sg k274 3 (pc' := 189) (ls' := [(0, aR 48 0)]) (st' := [aI (gI Y.1 48 0 25), aR 48 0]) (cs' := []) (fun _ => rfl) al0 ?_
      obtain ⟨v37, Y35, hv36, h⟩ := bd_some h
      refine w_cV1 k274 (sn_272 _ _ _ hv36) rfl (st := []) rfl ?_ (fun _ _ q => q.elim)
      refine w_sg k274 3 (pc' := 199) (ls' := [(0, aR 48 0)]) (st' := [aJ (((nI 57)).toInt64), aJ (((nI 48)).toInt64), aJ ((v37).toInt64)]) (cs' := []) (fun _ => rfl) al0 ?_
      obtain ⟨v40, Y38, hv39, h⟩ := bd_some h
      refine w_cS1 k274 (sn_166 _ _ _ _ _ hv39) rfl (st := []) rfl ?_ (fun _ _ q => q.elim)
      refine w_if_eq k274 rfl (fun c => ?_) (fun c => ?_)
      · replace h := if_t c h
        refine w_ls [(0, aR 48 0)] (lq_c rfl lq_n) ?_
        obtain rfl := Option.some.inj h
        obtain rfl := lpn_r hn30
        exact kE33 (Y38) rfl
      · replace h := if_f c h
        refine w_sg k274 6 (pc' := 215) (ls' := [(0, aR 48 0)]) (st' := [aI (nI 3), aI ((gI Y38.1 48 0 25) - (gI Y38.1 48 0 26))]) (cs' := []) (fun _ => rfl) al0 ?_
        refine w_icmp_ge k274 rfl (fun c => ?_) (fun c => ?_)
        · replace h := if_t c h
          refine w_sw k274 6 (Z := (sI Y38 48 0 25 ((gI Y38.1 48 0 25) + (nI 1)))) (pc' := 251) (ls' := [(0, aR 48 0)]) (st' := []) (cs' := [allw 48 0]) (fun _ => rfl) rfl (al1 rfl) ?_
          replace h := wr_some h
          generalize (sI Y38 48 0 25 ((gI Y38.1 48 0 25) + (nI 1))) = Y41 at h ⊢
          refine w_sg k274 1 (pc' := 184) (ls' := [(0, aR 48 0)]) (st' := []) (cs' := []) (fun _ => rfl) al0 ?_
          refine w_ls [(0, aR 48 0)] (lq_c rfl lq_n) ?_
          obtain rfl := Option.some.inj h
          exact ih31 _ _ (lpn_l hn30) kE33 kR34
        · replace h := if_f c h
          refine w_sg k274 8 (pc' := 231) (ls' := [(0, aR 48 0)]) (st' := [aI (gI Y38.1 48 0 25), aR 48 0, aI ((nI 10) * (gI Y38.1 48 0 29)), aR 48 0]) (cs' := []) (fun _ => rfl) al0 ?_
          obtain ⟨v44, Y42, hv43, h⟩ := bd_some h
          refine w_cV1 k274 (sn_272 _ _ _ hv43) rfl (st := [aI ((nI 10) * (gI Y38.1 48 0 29)), aR 48 0]) rfl ?_ (fun _ _ q => q.elim)
          refine w_sw k274 4 (Z := (sI Y42 48 0 29 ((((nI 10) * (gI Y38.1 48 0 29)) + v44) - (nI 48)))) (pc' := 241) (ls' := [(0, aR 48 0)]) (st' := []) (cs' := [allw 48 0]) (fun _ => rfl) rfl (al1 rfl) ?_
          replace h := wr_some h
          generalize (sI Y42 48 0 29 ((((nI 10) * (gI Y38.1 48 0 29)) + v44) - (nI 48))) = Y45 at h ⊢
          refine w_sw k274 6 (Z := (sI Y45 48 0 25 ((gI Y45.1 48 0 25) + (nI 1)))) (pc' := 251) (ls' := [(0, aR 48 0)]) (st' := []) (cs' := [allw 48 0]) (fun _ => rfl) rfl (al1 rfl) ?_
          replace h := wr_some h
          generalize (sI Y45 48 0 25 ((gI Y45.1 48 0 25) + (nI 1))) = Y46 at h ⊢
          refine w_sg k274 1 (pc' := 184) (ls' := [(0, aR 48 0)]) (st' := []) (cs' := []) (fun _ => rfl) al0 ?_
          refine w_ls [(0, aR 48 0)] (lq_c rfl lq_n) ?_
          obtain rfl := Option.some.inj h
          exact ih31 _ _ (lpn_l hn30) kE33 kR34
  have J254_0 : ∀ (Y : Sm), fn_274_J254 Y = some o → Wm 6 0 274 0 254 [(0, aR 48 0)] [] Y (Rt none o.2) nX := by
    intro Y h
    unfold fn_274_J254 at h
    refine w_sg k274 7 (pc' := 265) (ls' := [(0, aR 48 0)]) (st' := [aI (nI 3), aI ((gI Y.1 48 0 25) - (gI Y.1 48 0 26)), aR 48 0]) (cs' := []) (fun _ => rfl) al0 ?_
    refine w_icmp_le k274 rfl (fun c => ?_) (fun c => ?_)
    · replace h := if_t c h
      refine w_sw k274 2 (Z := (sI Y 48 0 27 (nI 2))) (pc' := 276) (ls' := [(0, aR 48 0)]) (st' := []) (cs' := [allw 48 0]) (fun _ => rfl) rfl (al1 rfl) ?_
      replace h := wr_some h
      generalize (sI Y 48 0 27 (nI 2)) = Y47 at h ⊢
      refine w_sg k274 1 (pc' := 304) (ls' := [(0, aR 48 0)]) (st' := []) (cs' := []) (fun _ => rfl) al0 ?_
      obtain rfl := Option.some.inj h
      exact w_return k274 ⟨rfl, rfl⟩
    · replace h := if_f c h
      refine w_sw k274 3 (Z := (sI Y 48 0 27 (nI 4))) (pc' := 276) (ls' := [(0, aR 48 0)]) (st' := []) (cs' := [allw 48 0]) (fun _ => rfl) rfl (al1 rfl) ?_
      replace h := wr_some h
      generalize (sI Y 48 0 27 (nI 4)) = Y48 at h ⊢
      refine w_sg k274 1 (pc' := 304) (ls' := [(0, aR 48 0)]) (st' := []) (cs' := []) (fun _ => rfl) al0 ?_
      obtain rfl := Option.some.inj h
      exact w_return k274 ⟨rfl, rfl⟩
  have L85_0 : ∀ (n : Nat) (Y : Sm) (e56 : (Sm) ⊕ (Unit × Sm)), lp (fun s => fn_274_L85 s) n (Y) = some e56 → (∀ s9 : (Sm), e56 = .inl s9 → Wm 6 0 274 0 149 [(0, aR 48 0)] [] s9 (Rt none o.2) nX) → (∀ r, e56 = .inr r → r = o) → Wm 6 0 274 0 85 [(0, aR 48 0)] [] Y (Rt none o.2) nX := by
    intro n
    induction n with
    | zero => intro Y e56 h; cases h
    | succ n ih55 =>
      intro Y e56 h kE57 kR58
      obtain ⟨q53, h, hn54⟩ := lp_succ h
      replace h : fn_274_L85 Y = some q53 := h
      unfold fn_274_L85 at h
      refine w_sg k274 3 (pc' := 90) (ls' := [(0, aR 48 0)]) (st' := [aI (gI Y.1 48 0 25), aR 48 0]) (cs' := []) (fun _ => rfl) al0 ?_
      obtain ⟨v61, Y59, hv60, h⟩ := bd_some h
      refine w_cV1 k274 (sn_273 _ _ _ hv60) rfl (st := []) rfl ?_ (fun _ _ q => q.elim)
      refine w_if_eq k274 rfl (fun c => ?_) (fun c => ?_)
      · replace h := if_t c h
        refine w_ls [(0, aR 48 0)] (lq_c rfl lq_n) ?_
        obtain rfl := Option.some.inj h
        obtain rfl := lpn_r hn54
        exact kE57 (Y59) rfl
      · replace h := if_f c h
        refine w_sg k274 6 (pc' := 107) (ls' := [(0, aR 48 0)]) (st' := [aI (nI 6), aI ((gI Y59.1 48 0 25) - (gI Y59.1 48 0 26))]) (cs' := []) (fun _ => rfl) al0 ?_
        refine w_icmp_ge k274 rfl (fun c => ?_) (fun c => ?_)
        · replace h := if_t c h
          refine w_sw k274 6 (Z := (sI Y59 48 0 25 ((gI Y59.1 48 0 25) + (nI 1)))) (pc' := 146) (ls' := [(0, aR 48 0)]) (st' := []) (cs' := [allw 48 0]) (fun _ => rfl) rfl (al1 rfl) ?_
          replace h := wr_some h
          generalize (sI Y59 48 0 25 ((gI Y59.1 48 0 25) + (nI 1))) = Y62 at h ⊢
          refine w_sg k274 1 (pc' := 85) (ls' := [(0, aR 48 0)]) (st' := []) (cs' := []) (fun _ => rfl) al0 ?_
          refine w_ls [(0, aR 48 0)] (lq_c rfl lq_n) ?_
          obtain rfl := Option.some.inj h
          exact ih55 _ _ (lpn_l hn54) kE57 kR58
        · replace h := if_f c h
          refine w_sg k274 8 (pc' := 124) (ls' := [(0, aR 48 0)]) (st' := [aI (gI Y59.1 48 0 25), aR 48 0, aJ ((((nI 32)).toInt64) * (gJ Y59.1 48 0 30)), aR 48 0]) (cs' := []) (fun _ => rfl) al0 ?_
          obtain ⟨v65, Y63, hv64, h⟩ := bd_some h
          refine w_cV1 k274 (sn_272 _ _ _ hv64) rfl (st := [aJ ((((nI 32)).toInt64) * (gJ Y59.1 48 0 30)), aR 48 0]) rfl ?_ (fun _ _ q => q.elim)
          refine w_sw k274 5 (Z := (sJ Y63 48 0 30 ((((((nI 32)).toInt64) * (gJ Y59.1 48 0 30)) + ((v65).toInt64)) - (((nI 96)).toInt64)))) (pc' := 136) (ls' := [(0, aR 48 0)]) (st' := []) (cs' := [allw 48 0]) (fun _ => rfl) rfl (al1 rfl) ?_
          replace h := wr_some h
          generalize (sJ Y63 48 0 30 ((((((nI 32)).toInt64) * (gJ Y59.1 48 0 30)) + ((v65).toInt64)) - (((nI 96)).toInt64))) = Y66 at h ⊢
          refine w_sw k274 6 (Z := (sI Y66 48 0 25 ((gI Y66.1 48 0 25) + (nI 1)))) (pc' := 146) (ls' := [(0, aR 48 0)]) (st' := []) (cs' := [allw 48 0]) (fun _ => rfl) rfl (al1 rfl) ?_
          replace h := wr_some h
          generalize (sI Y66 48 0 25 ((gI Y66.1 48 0 25) + (nI 1))) = Y67 at h ⊢
          refine w_sg k274 1 (pc' := 85) (ls' := [(0, aR 48 0)]) (st' := []) (cs' := []) (fun _ => rfl) al0 ?_
          refine w_ls [(0, aR 48 0)] (lq_c rfl lq_n) ?_
          obtain rfl := Option.some.inj h
          exact ih55 _ _ (lpn_l hn54) kE57 kR58
  have J149_0 : ∀ (Y : Sm), fn_274_J149 Y = some o → Wm 6 0 274 0 149 [(0, aR 48 0)] [] Y (Rt none o.2) nX := by
    intro Y h
    unfold fn_274_J149 at h
    refine w_sw k274 3 (Z := (sI Y 48 0 27 (nI 1))) (pc' := 154) (ls' := [(0, aR 48 0)]) (st' := []) (cs' := [allw 48 0]) (fun _ => rfl) rfl (al1 rfl) ?_
    replace h := wr_some h
    generalize (sI Y 48 0 27 (nI 1)) = Y68 at h ⊢
    refine w_sg k274 2 (pc' := 156) (ls' := [(0, aR 48 0)]) (st' := [aR 48 0, aR 48 0]) (cs' := []) (fun _ => rfl) al0 ?_
    obtain ⟨v71, Y69, hv70, h⟩ := bd_some h
    refine w_cV1 k274 (sn_275  _ _ hv70) rfl (st := [aR 48 0]) rfl ?_ (fun _ _ q => q.elim)
    refine w_sw k274 1 (Z := (sI Y69 48 0 28 v71)) (pc' := 162) (ls' := [(0, aR 48 0)]) (st' := []) (cs' := [allw 48 0]) (fun _ => rfl) rfl (al1 rfl) ?_
    replace h := wr_some h
    generalize (sI Y69 48 0 28 v71) = Y72 at h ⊢
    refine w_sg k274 1 (pc' := 304) (ls' := [(0, aR 48 0)]) (st' := []) (cs' := []) (fun _ => rfl) al0 ?_
    obtain rfl := Option.some.inj h
    exact w_return k274 ⟨rfl, rfl⟩
  have J39_0 : ∀ (Y : Sm), fn_274_J39 Y = some o → Wm 6 0 274 0 39 [(0, aR 48 0)] [] Y (Rt none o.2) nX := by
    intro Y h
    unfold fn_274_J39 at h
    refine w_sw k274 4 (Z := (sI Y 48 0 26 (gI Y.1 48 0 25))) (pc' := 47) (ls' := [(0, aR 48 0)]) (st' := []) (cs' := [allw 48 0]) (fun _ => rfl) rfl (al1 rfl) ?_
    replace h := wr_some h
    generalize (sI Y 48 0 26 (gI Y.1 48 0 25)) = Y15 at h ⊢
    refine w_sg k274 3 (pc' := 52) (ls' := [(0, aR 48 0)]) (st' := [aI (gI Y15.1 48 0 25), aR 48 0]) (cs' := []) (fun _ => rfl) al0 ?_
    obtain ⟨v18, Y16, hv17, h⟩ := bd_some h
    refine w_cV1 k274 (sn_272 _ _ _ hv17) rfl (st := []) rfl ?_ (fun _ _ q => q.elim)
    refine w_sg k274 1 (pc' := 56) (ls' := [(0, aR 48 0), (1, aI v18)]) (st' := []) (cs' := []) (fun _ => rfl) al0 ?_
    refine w_sg k274 2 (pc' := 58) (ls' := [(0, aR 48 0), (1, aI v18)]) (st' := [aI (-1 : Int32), aI v18]) (cs' := []) (fun _ => rfl) al0 ?_
    refine w_icmp_ne k274 rfl (fun c => ?_) (fun c => ?_)
    · replace h := if_f c h
      refine w_sg k274 3 (pc' := 74) (ls' := [(0, aR 48 0), (1, aI v18)]) (st' := [aI (gI Y16.1 48 0 25), aR 48 0]) (cs' := []) (fun _ => rfl) al0 ?_
      obtain ⟨v21, Y19, hv20, h⟩ := bd_some h
      refine w_cV1 k274 (sn_273 _ _ _ hv20) rfl (st := []) rfl ?_ (fun _ _ q => q.elim)
      refine w_if_eq k274 rfl (fun c => ?_) (fun c => ?_)
      · replace h := if_t c h
        refine w_sg k274 4 (pc' := 173) (ls' := [(0, aR 48 0), (1, aI v18)]) (st' := [aJ (((nI 57)).toInt64), aJ (((nI 48)).toInt64), aJ ((v18).toInt64)]) (cs' := []) (fun _ => rfl) al0 ?_
        obtain ⟨v24, Y22, hv23, h⟩ := bd_some h
        refine w_cS1 k274 (sn_166 _ _ _ _ _ hv23) rfl (st := []) rfl ?_ (fun _ _ q => q.elim)
        refine w_if_eq k274 rfl (fun c => ?_) (fun c => ?_)
        · replace h := if_t c h
          refine w_sw k274 6 (Z := (sI Y22 48 0 25 ((gI Y22.1 48 0 25) + (nI 1)))) (pc' := 289) (ls' := [(0, aR 48 0), (1, aI v18)]) (st' := []) (cs' := [allw 48 0]) (fun _ => rfl) rfl (al1 rfl) ?_
          replace h := wr_some h
          generalize (sI Y22 48 0 25 ((gI Y22.1 48 0 25) + (nI 1))) = Y25 at h ⊢
          refine w_sg k274 3 (pc' := 293) (ls' := [(0, aR 48 0), (1, aI v18)]) (st' := [aI (nI 59), aI v18, aR 48 0]) (cs' := []) (fun _ => rfl) al0 ?_
          refine w_icmp_ne k274 rfl (fun c => ?_) (fun c => ?_)
          · replace h := if_f c h
            refine w_sw k274 2 (Z := (sI Y25 48 0 27 (nI 4))) (pc' := 304) (ls' := [(0, aR 48 0), (1, aI v18)]) (st' := []) (cs' := [allw 48 0]) (fun _ => rfl) rfl (al1 rfl) ?_
            replace h := wr_some h
            generalize (sI Y25 48 0 27 (nI 4)) = Y26 at h ⊢
            obtain rfl := Option.some.inj h
            exact w_return k274 ⟨rfl, rfl⟩
          · replace h := if_t c h
            refine w_sw k274 3 (Z := (sI Y25 48 0 27 (nI 3))) (pc' := 304) (ls' := [(0, aR 48 0), (1, aI v18)]) (st' := []) (cs' := [allw 48 0]) (fun _ => rfl) rfl (al1 rfl) ?_
            replace h := wr_some h
            generalize (sI Y25 48 0 27 (nI 3)) = Y27 at h ⊢
            obtain rfl := Option.some.inj h
            exact w_return k274 ⟨rfl, rfl⟩
        · replace h := if_f c h
          refine w_sw k274 3 (Z := (sI Y22 48 0 29 (nI 0))) (pc' := 184) (ls' := [(0, aR 48 0), (1, aI v18)]) (st' := []) (cs' := [allw 48 0]) (fun _ => rfl) rfl (al1 rfl) ?_
          replace h := wr_some h
          generalize (sI Y22 48 0 29 (nI 0)) = Y28 at h ⊢
          obtain ⟨e51, hl49, hx50⟩ := exd_some h
          refine w_ls [(0, aR 48 0)] (lq_c rfl lq_n) ?_
          refine L184_0 _ _ e51 hl49 (fun s9 hs9 => ?_) (fun r9 hr9 => ?_)
          · subst hs9
            replace h : fn_274_J254 s9 = some o := hx50
            refine w_ls [(0, aR 48 0)] (lq_c rfl lq_n) ?_
            exact J254_0 _ h
          · subst hr9
            exact hx50
      · replace h := if_f c h
        refine w_sw k274 3 (Z := (sJ Y19 48 0 30 (Int64.ofNat 0))) (pc' := 85) (ls' := [(0, aR 48 0), (1, aI v18)]) (st' := []) (cs' := [allw 48 0]) (fun _ => rfl) rfl (al1 rfl) ?_
        replace h := wr_some h
        generalize (sJ Y19 48 0 30 (Int64.ofNat 0)) = Y52 at h ⊢
        obtain ⟨e75, hl73, hx74⟩ := exd_some h
        refine w_ls [(0, aR 48 0)] (lq_c rfl lq_n) ?_
        refine L85_0 _ _ e75 hl73 (fun s9 hs9 => ?_) (fun r9 hr9 => ?_)
        · subst hs9
          replace h : fn_274_J149 s9 = some o := hx74
          refine w_ls [(0, aR 48 0)] (lq_c rfl lq_n) ?_
          exact J149_0 _ h
        · subst hr9
          exact hx74
    · replace h := if_t c h
      refine w_sw k274 3 (Z := (sI Y16 48 0 27 (nI 0))) (pc' := 66) (ls' := [(0, aR 48 0), (1, aI v18)]) (st' := []) (cs' := [allw 48 0]) (fun _ => rfl) rfl (al1 rfl) ?_
      replace h := wr_some h
      generalize (sI Y16 48 0 27 (nI 0)) = Y76 at h ⊢
      refine w_sg k274 1 (pc' := 304) (ls' := [(0, aR 48 0), (1, aI v18)]) (st' := []) (cs' := []) (fun _ => rfl) al0 ?_
      obtain rfl := Option.some.inj h
      exact w_return k274 ⟨rfl, rfl⟩
  obtain ⟨e79, hl77, hx78⟩ := exd_some h
  refine w_ls [(0, aR 48 0)] (lq_c rfl lq_n) ?_
  refine L0_0 _ _ e79 hl77 (fun s9 hs9 => ?_) (fun r9 hr9 => ?_)
  · subst hs9
    replace h : fn_274_J39 s9 = some o := hx78
    refine w_ls [(0, aR 48 0)] (lq_c rfl lq_n) ?_
    exact J39_0 _ h
  · subst hr9
    exact hx78
set_option maxRecDepth 20000 in
set_option maxHeartbeats 4000000 in
/-- BallotBusModel.fine -/
theorem sn_276 {Y : Sm} (v : Int32) (Z : Sm) (h : fn_276 Y = some (v, Z)) : Mt 4 0 276 [aR 48 0] Y (Rt (some (aI v)) Z) nX := by
  refine Mt_of [(0, aR 48 0)] ?_
  generalize ho : (v, Z) = o at h
  have hv9 : v = o.1 := congrArg Prod.fst ho
  have hZ9 : Z = o.2 := congrArg Prod.snd ho
  clear ho
  subst hv9 hZ9
  unfold fn_276 at h
  refine w_sg k276 2 (pc' := 4) (ls' := [(0, aR 48 0)]) (st' := [aI (gI Y.1 48 0 31)]) (cs' := []) (fun _ => rfl) al0 ?_
  refine w_if_ne k276 rfl (fun c => ?_) (fun c => ?_)
  · replace h := if_f c h
    refine w_sg k276 1 (pc' := 12) (ls' := [(0, aR 48 0)]) (st' := [aI (nI 0)]) (cs' := []) (fun _ => rfl) al0 ?_
    obtain rfl := Option.some.inj h
    exact w_zreturn k276 (Or.inl rfl) ⟨rfl, rfl⟩
  · replace h := if_t c h
    refine w_sg k276 2 (pc' := 12) (ls' := [(0, aR 48 0)]) (st' := [aI (nI 1)]) (cs' := []) (fun _ => rfl) al0 ?_
    obtain rfl := Option.some.inj h
    exact w_zreturn k276 (Or.inr rfl) ⟨rfl, rfl⟩
set_option maxRecDepth 20000 in
set_option maxHeartbeats 4000000 in
/-- BallotBusModel.isWord -/
theorem sn_279 (a1 : Int32) {Y : Sm} (v : Int32) (Z : Sm) (h : fn_279 a1 Y = some (v, Z)) : Mt 5 0 279 [aR 48 0, aI a1] Y (Rt (some (aI v)) Z) nX := by
  refine Mt_of [(0, aR 48 0), (1, aI a1)] ?_
  generalize ho : (v, Z) = o at h
  have hv9 : v = o.1 := congrArg Prod.fst ho
  have hZ9 : Z = o.2 := congrArg Prod.snd ho
  clear ho
  subst hv9 hZ9
  unfold fn_279 at h
  refine w_sg k279 1 (pc' := 1) (ls' := [(0, aR 48 0), (1, aI a1)]) (st' := [aR 48 0]) (cs' := []) (fun _ => rfl) al0 ?_
  obtain ⟨v3, Y1, hv2, h⟩ := bd_some h
  refine w_cV1 k279 (sn_276  _ _ hv2) rfl (st := []) rfl ?_ (fun _ _ q => q.elim)
  refine w_if_eq k279 rfl (fun c => ?_) (fun c => ?_)
  · replace h := if_t c h
    refine w_sg k279 1 (pc' := 28) (ls' := [(0, aR 48 0), (1, aI a1)]) (st' := [aI (nI 0)]) (cs' := []) (fun _ => rfl) al0 ?_
    obtain rfl := Option.some.inj h
    exact w_zreturn k279 (Or.inl rfl) ⟨rfl, rfl⟩
  · replace h := if_f c h
    refine w_sg k279 3 (pc' := 12) (ls' := [(0, aR 48 0), (1, aI a1)]) (st' := [aI (nI 1), aI (gI Y1.1 48 0 27)]) (cs' := []) (fun _ => rfl) al0 ?_
    refine w_icmp_ne k279 rfl (fun c => ?_) (fun c => ?_)
    · replace h := if_f c h
      refine w_sg k279 1 (pc' := 28) (ls' := [(0, aR 48 0), (1, aI a1)]) (st' := [aI (nI 0)]) (cs' := []) (fun _ => rfl) al0 ?_
      obtain rfl := Option.some.inj h
      exact w_zreturn k279 (Or.inl rfl) ⟨rfl, rfl⟩
    · replace h := if_t c h
      refine w_sg k279 3 (pc' := 20) (ls' := [(0, aR 48 0), (1, aI a1)]) (st' := [aI a1, aI (gI Y1.1 48 0 28)]) (cs' := []) (fun _ => rfl) al0 ?_
      refine w_icmp_ne k279 rfl (fun c => ?_) (fun c => ?_)
      · replace h := if_f c h
        refine w_sg k279 1 (pc' := 28) (ls' := [(0, aR 48 0), (1, aI a1)]) (st' := [aI (nI 0)]) (cs' := []) (fun _ => rfl) al0 ?_
        obtain rfl := Option.some.inj h
        exact w_zreturn k279 (Or.inl rfl) ⟨rfl, rfl⟩
      · replace h := if_t c h
        refine w_sg k279 2 (pc' := 28) (ls' := [(0, aR 48 0), (1, aI a1)]) (st' := [aI (nI 1)]) (cs' := []) (fun _ => rfl) al0 ?_
        obtain rfl := Option.some.inj h
        exact w_zreturn k279 (Or.inr rfl) ⟨rfl, rfl⟩
set_option maxRecDepth 20000 in
set_option maxHeartbeats 4000000 in
/-- BallotBusModel.needs -/
theorem sn_277 (a1 : Int32) (a2 : Int32) {Y : Sm} (v : Unit) (Z : Sm) (h : fn_277 a1 a2 Y = some (v, Z)) : Mt 4 0 277 [aR 48 0, aI a1, aI a2] Y (Rt none Z) nX := by
  refine Mt_of [(0, aR 48 0), (1, aI a1), (2, aI a2)] ?_
  generalize ho : (v, Z) = o at h
  have hv9 : v = o.1 := congrArg Prod.fst ho
  have hZ9 : Z = o.2 := congrArg Prod.snd ho
  clear ho
  subst hv9 hZ9
  unfold fn_277 at h
  refine w_sg k277 2 (pc' := 4) (ls' := [(0, aR 48 0), (1, aI a1), (2, aI a2)]) (st' := [aI (gI Y.1 48 0 31)]) (cs' := []) (fun _ => rfl) al0 ?_
  refine w_if_ne k277 rfl (fun c => ?_) (fun c => ?_)
  · replace h := if_f c h
    obtain rfl := Option.some.inj h
    exact w_return k277 ⟨rfl, rfl⟩
  · replace h := if_t c h
    refine w_sg k277 1 (pc' := 8) (ls' := [(0, aR 48 0), (1, aI a1), (2, aI a2)]) (st' := [aI a1]) (cs' := []) (fun _ => rfl) al0 ?_
    refine w_if_eq k277 rfl (fun c => ?_) (fun c => ?_)
    · replace h := if_t c h
      refine w_sw k277 3 (Z := (sI Y 48 0 31 a2)) (pc' := 17) (ls' := [(0, aR 48 0), (1, aI a1), (2, aI a2)]) (st' := []) (cs' := [allw 48 0]) (fun _ => rfl) rfl (al1 rfl) ?_
      replace h := wr_some h
      generalize (sI Y 48 0 31 a2) = Y1 at h ⊢
      refine w_sw k277 4 (Z := (sI Y1 48 0 32 (gI Y1.1 48 0 26))) (pc' := 25) (ls' := [(0, aR 48 0), (1, aI a1), (2, aI a2)]) (st' := []) (cs' := [allw 48 0]) (fun _ => rfl) rfl (al1 rfl) ?_
      replace h := wr_some h
      generalize (sI Y1 48 0 32 (gI Y1.1 48 0 26)) = Y2 at h ⊢
      obtain rfl := Option.some.inj h
      exact w_return k277 ⟨rfl, rfl⟩
    · replace h := if_f c h
      obtain rfl := Option.some.inj h
      exact w_return k277 ⟨rfl, rfl⟩
set_option maxRecDepth 20000 in
set_option maxHeartbeats 4000000 in
/-- BallotBusModel.goOn -/
theorem sn_278 {Y : Sm} (v : Unit) (Z : Sm) (h : fn_278 Y = some (v, Z)) : Mt 7 0 278 [aR 48 0] Y (Rt none Z) nX := by
  refine Mt_of [(0, aR 48 0)] ?_
  generalize ho : (v, Z) = o at h
  have hv9 : v = o.1 := congrArg Prod.fst ho
  have hZ9 : Z = o.2 := congrArg Prod.snd ho
  clear ho
  subst hv9 hZ9
  unfold fn_278 at h
  refine w_sg k278 1 (pc' := 1) (ls' := [(0, aR 48 0)]) (st' := [aR 48 0]) (cs' := []) (fun _ => rfl) al0 ?_
  obtain ⟨v3, Y1, hv2, h⟩ := bd_some h
  refine w_cV1 k278 (sn_276  _ _ hv2) rfl (st := []) rfl ?_ (fun _ _ q => q.elim)
  refine w_if_eq k278 rfl (fun c => ?_) (fun c => ?_)
  · replace h := if_t c h
    obtain rfl := Option.some.inj h
    exact w_return k278 ⟨rfl, rfl⟩
  · replace h := if_f c h
    refine w_sg k278 1 (pc' := 8) (ls' := [(0, aR 48 0)]) (st' := [aR 48 0]) (cs' := []) (fun _ => rfl) al0 ?_
    obtain ⟨_, Y4, hv5, h⟩ := bd_some h
    refine w_cV0 k278 (sn_274  _ _ hv5) rfl (st := []) rfl ?_ (fun _ _ q => q.elim)
    obtain rfl := Option.some.inj h
    exact w_return k278 ⟨rfl, rfl⟩
set_option maxRecDepth 20000 in
set_option maxHeartbeats 4000000 in
/-- BallotBusModel.number -/
theorem sn_281 (a1 : Int32) (a2 : Int32) {Y : Sm} (v : Int32) (Z : Sm) (h : fn_281 a1 a2 Y = some (v, Z)) : Mt 8 0 281 [aR 48 0, aI a1, aI a2] Y (Rt (some (aI v)) Z) nX := by
  refine Mt_of [(0, aR 48 0), (1, aI a1), (2, aI a2)] ?_
  generalize ho : (v, Z) = o at h
  have hv9 : v = o.1 := congrArg Prod.fst ho
  have hZ9 : Z = o.2 := congrArg Prod.snd ho
  clear ho
  subst hv9 hZ9
  unfold fn_281 at h
  have J14_0 : ∀ (l1 : Int32) (l2 : Int32) (t0 : Int32) (Y : Sm), fn_281_J14 l1 l2 t0 Y = some o → Wm 8 0 281 0 14 [(0, aR 48 0), (1, aI l1), (2, aI l2)] [aI t0, aR 48 0] Y (Rt (some (aI o.1)) o.2) nX := by
    intro l1 l2 t0 Y h
    unfold fn_281_J14 at h
    refine w_sg k281 1 (pc' := 15) (ls' := [(0, aR 48 0), (1, aI l1), (2, aI l2)]) (st' := [aI (nI 1), aI t0, aR 48 0]) (cs' := []) (fun _ => rfl) al0 ?_
    obtain ⟨_, Y1, hv2, h⟩ := bd_some h
    refine w_cV0 k281 (sn_277 _ _ _ _ hv2) rfl (st := []) rfl ?_ (fun _ _ q => q.elim)
    refine w_sg k281 1 (pc' := 19) (ls' := [(0, aR 48 0), (1, aI l1), (2, aI l2)]) (st' := [aR 48 0]) (cs' := []) (fun _ => rfl) al0 ?_
    obtain ⟨v5, Y3, hv4, h⟩ := bd_some h
    refine w_cV1 k281 (sn_276  _ _ hv4) rfl (st := []) rfl ?_ (fun _ _ q => q.elim)
    refine w_if_eq k281 rfl (fun c => ?_) (fun c => ?_)
    · replace h := if_t c h
      refine w_sg k281 3 (pc' := 47) (ls' := [(0, aR 48 0), (1, aI l1), (2, aI l2), (3, aI (gI Y3.1 48 0 29))]) (st' := []) (cs' := []) (fun _ => rfl) al0 ?_
      refine w_sg k281 1 (pc' := 48) (ls' := [(0, aR 48 0), (1, aI l1), (2, aI l2), (3, aI (gI Y3.1 48 0 29))]) (st' := [aR 48 0]) (cs' := []) (fun _ => rfl) al0 ?_
      obtain ⟨_, Y6, hv7, h⟩ := bd_some h
      refine w_cV0 k281 (sn_278  _ _ hv7) rfl (st := []) rfl ?_ (fun _ _ q => q.elim)
      refine w_sg k281 1 (pc' := 52) (ls' := [(0, aR 48 0), (1, aI l1), (2, aI l2), (3, aI (gI Y3.1 48 0 29))]) (st' := [aI (gI Y3.1 48 0 29)]) (cs' := []) (fun _ => rfl) al0 ?_
      obtain rfl := Option.some.inj h
      exact w_ireturn k281 ⟨rfl, rfl⟩
    · replace h := if_f c h
      refine w_sg k281 8 (pc' := 35) (ls' := [(0, aR 48 0), (1, aI l1), (2, aI l2)]) (st' := [aJ ((l2).toInt64), aJ ((l1).toInt64), aJ ((gI Y3.1 48 0 29).toInt64), aR 48 0]) (cs' := []) (fun _ => rfl) al0 ?_
      obtain ⟨v10, Y8, hv9, h⟩ := bd_some h
      refine w_cS1 k281 (sn_166 _ _ _ _ _ hv9) rfl (st := [aR 48 0]) rfl ?_ (fun _ _ q => q.elim)
      refine w_sg k281 1 (pc' := 39) (ls' := [(0, aR 48 0), (1, aI l1), (2, aI l2)]) (st' := [aI (nI 2), aI v10, aR 48 0]) (cs' := []) (fun _ => rfl) al0 ?_
      obtain ⟨_, Y11, hv12, h⟩ := bd_some h
      refine w_cV0 k281 (sn_277 _ _ _ _ hv12) rfl (st := []) rfl ?_ (fun _ _ q => q.elim)
      refine w_sg k281 3 (pc' := 47) (ls' := [(0, aR 48 0), (1, aI l1), (2, aI l2), (3, aI (gI Y11.1 48 0 29))]) (st' := []) (cs' := []) (fun _ => rfl) al0 ?_
      refine w_sg k281 1 (pc' := 48) (ls' := [(0, aR 48 0), (1, aI l1), (2, aI l2), (3, aI (gI Y11.1 48 0 29))]) (st' := [aR 48 0]) (cs' := []) (fun _ => rfl) al0 ?_
      obtain ⟨_, Y13, hv14, h⟩ := bd_some h
      refine w_cV0 k281 (sn_278  _ _ hv14) rfl (st := []) rfl ?_ (fun _ _ q => q.elim)
      refine w_sg k281 1 (pc' := 52) (ls' := [(0, aR 48 0), (1, aI l1), (2, aI l2), (3, aI (gI Y11.1 48 0 29))]) (st' := [aI (gI Y11.1 48 0 29)]) (cs' := []) (fun _ => rfl) al0 ?_
      obtain rfl := Option.some.inj h
      exact w_ireturn k281 ⟨rfl, rfl⟩
  refine w_sg k281 4 (pc' := 6) (ls' := [(0, aR 48 0), (1, aI a1), (2, aI a2)]) (st' := [aI (nI 2), aI (gI Y.1 48 0 27), aR 48 0]) (cs' := []) (fun _ => rfl) al0 ?_
  refine w_icmp_ne k281 rfl (fun c => ?_) (fun c => ?_)
  · replace h := if_f c h
    refine w_sg k281 1 (pc' := 14) (ls' := [(0, aR 48 0), (1, aI a1), (2, aI a2)]) (st' := [aI (nI 0), aR 48 0]) (cs' := []) (fun _ => rfl) al0 ?_
    refine w_ls [(0, aR 48 0), (1, aI a1), (2, aI a2)] (lq_c rfl (lq_c rfl (lq_c rfl lq_n))) ?_
    exact J14_0 _ _ _ _ h
  · replace h := if_t c h
    refine w_sg k281 2 (pc' := 14) (ls' := [(0, aR 48 0), (1, aI a1), (2, aI a2)]) (st' := [aI (nI 1), aR 48 0]) (cs' := []) (fun _ => rfl) al0 ?_
    refine w_ls [(0, aR 48 0), (1, aI a1), (2, aI a2)] (lq_c rfl (lq_c rfl (lq_c rfl lq_n))) ?_
    exact J14_0 _ _ _ _ h
