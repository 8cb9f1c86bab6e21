/-! the code of the methods does what their functions say (printed by wip/whole/gen20.py) -/
set_option maxRecDepth 20000 in
set_option maxHeartbeats 4000000 in
/-- BallotBusModel.setManner -/
theorem sn_225 (a1 : Int32) (a2 : Int32) {Y : Sm} (v : Int32) (Z : Sm) (h : fn_225 a1 a2 Y = some (v, Z)) : Mt 7 0 225 [aR 48 0, aI a1, aI a2] Y (Rt (some (aI v)) Z) nX := by
  refine Mt_of [(0, aR 48 0), (1, aI a1), (2, aI a2)] ?_
  generalize ho : (v, Z) = o at h
  have hv9 : v = o.1 := congrArg Prod.fst ho
  have hZ9 : Z = o.2 := congrArg Prod.snd ho
  clear ho
  subst hv9 hZ9
  unfold fn_225 at h
  refine w_sg k225 3 (pc' := 3) (ls' := [(0, aR 48 0), (1, aI a1), (2, aI a2)]) (st' := [aI a1, aR 48 0, aR 48 0]) (cs' := []) (fun _ => rfl) al0 ?_
  obtain ⟨v3, Y1, hv2, h⟩ := bd_some h
  refine w_cV1 k225 (sn_209 _ _ _ hv2) rfl (st := [aR 48 0]) rfl ?_ (fun _ _ q => q.elim)
  obtain ⟨v6, Y4, hv5, h⟩ := bd_some h
  refine w_cV1 k225 (sn_164 _ _ _ hv5) rfl (st := []) rfl ?_ (fun _ _ q => q.elim)
  refine w_if_eq k225 rfl (fun c => ?_) (fun c => ?_)
  · replace h := if_t c h
    refine w_sg k225 1 (pc' := 30) (ls' := [(0, aR 48 0), (1, aI a1), (2, aI a2)]) (st' := [aI (nI 0)]) (cs' := []) (fun _ => rfl) al0 ?_
    obtain rfl := Option.some.inj h
    exact w_ireturn k225 ⟨rfl, rfl⟩
  · replace h := if_f c h
    refine w_sg k225 5 (pc' := 19) (ls' := [(0, aR 48 0), (1, aI a1), (2, aI a2)]) (st' := [aJ (((nI 3)).toInt64), aJ (Int64.ofNat 0), aJ ((a2).toInt64), aR 48 0]) (cs' := []) (fun _ => rfl) al0 ?_
    obtain ⟨v9, Y7, hv8, h⟩ := bd_some h
    refine w_cS1 k225 (sn_166 _ _ _ _ _ hv8) rfl (st := [aR 48 0]) rfl ?_ (fun _ _ q => q.elim)
    refine w_sg k225 1 (pc' := 23) (ls' := [(0, aR 48 0), (1, aI a1), (2, aI a2)]) (st' := [aI (nI 2), aI v9, aR 48 0]) (cs' := []) (fun _ => rfl) al0 ?_
    obtain ⟨v12, Y10, hv11, h⟩ := bd_some h
    refine w_cV1 k225 (sn_165 _ _ _ _ hv11) rfl (st := []) rfl ?_ (fun _ _ q => q.elim)
    refine w_if_ne k225 rfl (fun c => ?_) (fun c => ?_)
    · replace h := if_f c h
      refine w_sg k225 5 (pc' := 37) (ls' := [(0, aR 48 0), (1, aI a1), (2, aI a2)]) (st' := [aI a2, aI ((nI 15) + a1), aR 48 0]) (cs' := []) (fun _ => rfl) al0 ?_
      obtain ⟨v15, Y13, hv14, h⟩ := bd_some h
      refine w_cV1 k225 (sn_223 _ _ _ _ hv14) rfl (st := []) rfl ?_ (fun _ _ q => q.elim)
      obtain rfl := Option.some.inj h
      exact w_ireturn k225 ⟨rfl, rfl⟩
    · replace h := if_t c h
      refine w_sg k225 1 (pc' := 30) (ls' := [(0, aR 48 0), (1, aI a1), (2, aI a2)]) (st' := [aI (nI 0)]) (cs' := []) (fun _ => rfl) al0 ?_
      obtain rfl := Option.some.inj h
      exact w_ireturn k225 ⟨rfl, rfl⟩
set_option maxRecDepth 20000 in
set_option maxHeartbeats 4000000 in
/-- BallotBusModel.waiting -/
theorem sn_181 {Y : Sm} (v : Int32) (Z : Sm) (h : fn_181 Y = some (v, Z)) : Mt 4 0 181 [aR 48 0] Y (Rt (some (aI v)) Z) nX := by
  refine Mt_of [(0, aR 48 0)] ?_
  generalize ho : (v, Z) = o at h
  have hv9 : v = o.1 := congrArg Prod.fst ho
  have hZ9 : Z = o.2 := congrArg Prod.snd ho
  clear ho
  subst hv9 hZ9
  unfold fn_181 at h
  refine w_sg k181 5 (pc' := 8) (ls' := [(0, aR 48 0)]) (st' := [aI (-1 : Int32), aI (gI Y.1 52 0 8)]) (cs' := [vp_in (nI 8) 718]) (fun _ => rfl) (al1 (vin rfl)) ?_
  refine w_icmp_ne k181 rfl (fun c => ?_) (fun c => ?_)
  · replace h := if_f c h
    refine w_sg k181 6 (pc' := 30) (ls' := [(0, aR 48 0)]) (st' := [aI ((gI Y.1 52 0 9) - (nI 1))]) (cs' := [vp_in (nI 9) 718]) (fun _ => rfl) (al1 (vin rfl)) ?_
    obtain rfl := Option.some.inj h
    exact w_ireturn k181 ⟨rfl, rfl⟩
  · replace h := if_t c h
    refine w_sg k181 5 (pc' := 30) (ls' := [(0, aR 48 0)]) (st' := [aI (gI Y.1 52 0 9)]) (cs' := [vp_in (nI 9) 718]) (fun _ => rfl) (al1 (vin rfl)) ?_
    obtain rfl := Option.some.inj h
    exact w_ireturn k181 ⟨rfl, rfl⟩
set_option maxRecDepth 20000 in
set_option maxHeartbeats 4000000 in
/-- BallotBusModel.count -/
theorem sn_226 (a1 : Int32) {Y : Sm} (v : Int32) (Z : Sm) (h : fn_226 a1 Y = some (v, Z)) : Mt 5 0 226 [aR 48 0, aI a1] Y (Rt (some (aI v)) Z) nX := by
  refine Mt_of [(0, aR 48 0), (1, aI a1)] ?_
  generalize ho : (v, Z) = o at h
  have hv9 : v = o.1 := congrArg Prod.fst ho
  have hZ9 : Z = o.2 := congrArg Prod.snd ho
  clear ho
  subst hv9 hZ9
  unfold fn_226 at h
  refine w_sw k226 3 (Z := (sI Y 48 0 0 (nI 0))) (pc' := 5) (ls' := [(0, aR 48 0), (1, aI a1)]) (st' := []) (cs' := [allw 48 0]) (fun _ => rfl) rfl (al1 rfl) ?_
  replace h := wr_some h
  generalize (sI Y 48 0 0 (nI 0)) = Y1 at h ⊢
  refine w_sg k226 1 (pc' := 6) (ls' := [(0, aR 48 0), (1, aI a1)]) (st' := [aI a1]) (cs' := []) (fun _ => rfl) al0 ?_
  by_cases c2 : a1 = (nI 0)
  · replace h := if_t c2 h
    refine w_swAt k226 0 rfl rfl rfl rfl c2 ?_
    refine w_sg k226 2 (pc' := 88) (ls' := [(0, aR 48 0), (1, aI a1)]) (st' := [aI (gI Y1.1 48 0 1)]) (cs' := []) (fun _ => rfl) al0 ?_
    obtain rfl := Option.some.inj h
    exact w_ireturn k226 ⟨rfl, rfl⟩
  replace h := if_f c2 h
  by_cases c3 : a1 = (nI 1)
  · replace h := if_t c3 h
    refine w_swAt k226 1 rfl rfl rfl rfl c3 ?_
    refine w_sg k226 2 (pc' := 93) (ls' := [(0, aR 48 0), (1, aI a1)]) (st' := [aI (gI Y1.1 48 0 2)]) (cs' := []) (fun _ => rfl) al0 ?_
    obtain rfl := Option.some.inj h
    exact w_ireturn k226 ⟨rfl, rfl⟩
  replace h := if_f c3 h
  by_cases c4 : a1 = (nI 2)
  · replace h := if_t c4 h
    refine w_swAt k226 2 rfl rfl rfl rfl c4 ?_
    refine w_sg k226 4 (pc' := 100) (ls' := [(0, aR 48 0), (1, aI a1)]) (st' := [aI (gI Y1.1 52 0 0)]) (cs' := [vp_in (nI 0) 718]) (fun _ => rfl) (al1 (vin rfl)) ?_
    obtain rfl := Option.some.inj h
    exact w_ireturn k226 ⟨rfl, rfl⟩
  replace h := if_f c4 h
  by_cases c5 : a1 = (nI 3)
  · replace h := if_t c5 h
    refine w_swAt k226 3 rfl rfl rfl rfl c5 ?_
    refine w_sg k226 4 (pc' := 107) (ls' := [(0, aR 48 0), (1, aI a1)]) (st' := [aI (gI Y1.1 52 0 1)]) (cs' := [vp_in (nI 1) 718]) (fun _ => rfl) (al1 (vin rfl)) ?_
    obtain rfl := Option.some.inj h
    exact w_ireturn k226 ⟨rfl, rfl⟩
  replace h := if_f c5 h
  by_cases c6 : a1 = (nI 4)
  · replace h := if_t c6 h
    refine w_swAt k226 4 rfl rfl rfl rfl c6 ?_
    refine w_sg k226 2 (pc' := 112) (ls' := [(0, aR 48 0), (1, aI a1)]) (st' := [aI (gI Y1.1 48 0 3)]) (cs' := []) (fun _ => rfl) al0 ?_
    obtain rfl := Option.some.inj h
    exact w_ireturn k226 ⟨rfl, rfl⟩
  replace h := if_f c6 h
  by_cases c7 : a1 = (nI 5)
  · replace h := if_t c7 h
    refine w_swAt k226 5 rfl rfl rfl rfl c7 ?_
    refine w_sg k226 2 (pc' := 117) (ls' := [(0, aR 48 0), (1, aI a1)]) (st' := [aI (gI Y1.1 48 0 4)]) (cs' := []) (fun _ => rfl) al0 ?_
    obtain rfl := Option.some.inj h
    exact w_ireturn k226 ⟨rfl, rfl⟩
  replace h := if_f c7 h
  by_cases c8 : a1 = (nI 6)
  · replace h := if_t c8 h
    refine w_swAt k226 6 rfl rfl rfl rfl c8 ?_
    refine w_sg k226 2 (pc' := 122) (ls' := [(0, aR 48 0), (1, aI a1)]) (st' := [aI (gI Y1.1 48 0 5)]) (cs' := []) (fun _ => rfl) al0 ?_
    obtain rfl := Option.some.inj h
    exact w_ireturn k226 ⟨rfl, rfl⟩
  replace h := if_f c8 h
  by_cases c9 : a1 = (nI 7)
  · replace h := if_t c9 h
    refine w_swAt k226 7 rfl rfl rfl rfl c9 ?_
    refine w_sg k226 2 (pc' := 127) (ls' := [(0, aR 48 0), (1, aI a1)]) (st' := [aI (gI Y1.1 48 0 6)]) (cs' := []) (fun _ => rfl) al0 ?_
    obtain rfl := Option.some.inj h
    exact w_ireturn k226 ⟨rfl, rfl⟩
  replace h := if_f c9 h
  by_cases c10 : a1 = (nI 8)
  · replace h := if_t c10 h
    refine w_swAt k226 8 rfl rfl rfl rfl c10 ?_
    refine w_sg k226 2 (pc' := 132) (ls' := [(0, aR 48 0), (1, aI a1)]) (st' := [aI (gI Y1.1 48 0 7)]) (cs' := []) (fun _ => rfl) al0 ?_
    obtain rfl := Option.some.inj h
    exact w_ireturn k226 ⟨rfl, rfl⟩
  replace h := if_f c10 h
  by_cases c11 : a1 = (nI 9)
  · replace h := if_t c11 h
    refine w_swAt k226 9 rfl rfl rfl rfl c11 ?_
    refine w_sg k226 1 (pc' := 134) (ls' := [(0, aR 48 0), (1, aI a1)]) (st' := [aR 48 0]) (cs' := []) (fun _ => rfl) al0 ?_
    obtain ⟨v20, Y18, hv19, h⟩ := bd_some h
    refine w_cV1 k226 (sn_181  _ _ hv19) rfl (st := []) rfl ?_ (fun _ _ q => q.elim)
    obtain rfl := Option.some.inj h
    exact w_ireturn k226 ⟨rfl, rfl⟩
  replace h := if_f c11 h
  by_cases c12 : a1 = (nI 10)
  · replace h := if_t c12 h
    refine w_swAt k226 10 rfl rfl rfl rfl c12 ?_
    refine w_sg k226 4 (pc' := 145) (ls' := [(0, aR 48 0), (1, aI a1)]) (st' := [aI (gI Y1.1 52 0 7)]) (cs' := [vp_in (nI 7) 718]) (fun _ => rfl) (al1 (vin rfl)) ?_
    obtain rfl := Option.some.inj h
    exact w_ireturn k226 ⟨rfl, rfl⟩
  replace h := if_f c12 h
  by_cases c13 : a1 = (nI 11)
  · replace h := if_t c13 h
    refine w_swAt k226 11 rfl rfl rfl rfl c13 ?_
    refine w_sg k226 4 (pc' := 153) (ls' := [(0, aR 48 0), (1, aI a1)]) (st' := [aI (gI Y1.1 52 0 6)]) (cs' := [vp_in (nI 6) 718]) (fun _ => rfl) (al1 (vin rfl)) ?_
    obtain rfl := Option.some.inj h
    exact w_ireturn k226 ⟨rfl, rfl⟩
  replace h := if_f c13 h
  by_cases c14 : a1 = (nI 12)
  · replace h := if_t c14 h
    refine w_swAt k226 12 rfl rfl rfl rfl c14 ?_
    refine w_sg k226 4 (pc' := 160) (ls' := [(0, aR 48 0), (1, aI a1)]) (st' := [aI (gI Y1.1 52 0 2)]) (cs' := [vp_in (nI 2) 718]) (fun _ => rfl) (al1 (vin rfl)) ?_
    obtain rfl := Option.some.inj h
    exact w_ireturn k226 ⟨rfl, rfl⟩
  replace h := if_f c14 h
  by_cases c15 : a1 = (nI 13)
  · replace h := if_t c15 h
    refine w_swAt k226 13 rfl rfl rfl rfl c15 ?_
    refine w_sg k226 4 (pc' := 167) (ls' := [(0, aR 48 0), (1, aI a1)]) (st' := [aI (gI Y1.1 52 0 4)]) (cs' := [vp_in (nI 4) 718]) (fun _ => rfl) (al1 (vin rfl)) ?_
    obtain rfl := Option.some.inj h
    exact w_ireturn k226 ⟨rfl, rfl⟩
  replace h := if_f c15 h
  by_cases c16 : a1 = (nI 14)
  · replace h := if_t c16 h
    refine w_swAt k226 14 rfl rfl rfl rfl c16 ?_
    refine w_sg k226 4 (pc' := 174) (ls' := [(0, aR 48 0), (1, aI a1)]) (st' := [aI (gI Y1.1 52 0 5)]) (cs' := [vp_in (nI 5) 718]) (fun _ => rfl) (al1 (vin rfl)) ?_
    obtain rfl := Option.some.inj h
    exact w_ireturn k226 ⟨rfl, rfl⟩
  replace h := if_f c16 h
  by_cases c17 : a1 = (nI 15)
  · replace h := if_t c17 h
    refine w_swAt k226 15 rfl rfl rfl rfl c17 ?_
    refine w_sg k226 2 (pc' := 179) (ls' := [(0, aR 48 0), (1, aI a1)]) (st' := [aI (gI Y1.1 48 0 17)]) (cs' := []) (fun _ => rfl) al0 ?_
    obtain rfl := Option.some.inj h
    exact w_ireturn k226 ⟨rfl, rfl⟩
  replace h := if_f c17 h
  refine w_swOut k226 rfl rfl rfl (nsw_s (nsw_s (nsw_s (nsw_s (nsw_s (nsw_s (nsw_s (nsw_s (nsw_s (nsw_s (nsw_s (nsw_s (nsw_s (nsw_s (nsw_s (nsw_s nsw_0 c2) c3) c4) c5) c6) c7) c8) c9) c10) c11) c12) c13) c14) c15) c16) c17) ?_
  refine w_sg k226 1 (pc' := 181) (ls' := [(0, aR 48 0), (1, aI a1)]) (st' := [aI (-1 : Int32)]) (cs' := []) (fun _ => rfl) al0 ?_
  obtain rfl := Option.some.inj h
  exact w_ireturn k226 ⟨rfl, rfl⟩
set_option maxRecDepth 20000 in
set_option maxHeartbeats 4000000 in
/-- BallotBusModel.waitingOf -/
theorem sn_227 (a1 : Int32) {Y : Sm} (v : Int32) (Z : Sm) (h : fn_227 a1 Y = some (v, Z)) : Mt 6 0 227 [aR 48 0, aI a1] Y (Rt (some (aI v)) Z) nX := by
  refine Mt_of [(0, aR 48 0), (1, aI a1)] ?_
  generalize ho : (v, Z) = o at h
  have hv9 : v = o.1 := congrArg Prod.fst ho
  have hZ9 : Z = o.2 := congrArg Prod.snd ho
  clear ho
  subst hv9 hZ9
  unfold fn_227 at h
  have L4_0 : ∀ (l1 : Int32) (n : Nat) (l2 : Int32) (l3 : Int32) (Y : Sm), lp (fun s => fn_227_L4 l1 s.1 s.2.1 s.2.2) n (l2, l3, Y) = some o → Wm 6 0 227 0 4 [(0, aR 48 0), (1, aI l1), (2, aI l2), (3, aI l3)] [] Y (Rt (some (aI o.1)) o.2) nX := by
    intro l1 n
    induction n with
    | zero => intro l2 l3 Y h; cases h
    | succ n ih3 =>
      intro l2 l3 Y h
      obtain ⟨q1, h, hn2⟩ := lp_succ h
      replace h : fn_227_L4 l1 l2 l3 Y = some q1 := h
      unfold fn_227_L4 at h
      refine w_sg k227 5 (pc' := 12) (ls' := [(0, aR 48 0), (1, aI l1), (2, aI l2), (3, aI l3)]) (st' := [aI (gI Y.1 52 0 9), aI l3]) (cs' := [vp_in (nI 9) 718]) (fun _ => rfl) (al1 (vin rfl)) ?_
      refine w_icmp_ge k227 rfl (fun c => ?_) (fun c => ?_)
      · replace h := if_t c h
        refine w_sg k227 1 (pc' := 44) (ls' := [(0, aR 48 0), (1, aI l1), (2, aI l2), (3, aI l3)]) (st' := [aI l2]) (cs' := []) (fun _ => rfl) al0 ?_
        obtain rfl := Option.some.inj h
        obtain rfl := lpn_r hn2
        exact w_ireturn k227 ⟨rfl, rfl⟩
      · replace h := if_f c h
        refine w_sg k227 3 (pc' := 18) (ls' := [(0, aR 48 0), (1, aI l1), (2, aI l2), (3, aI l3)]) (st' := [aI (nI 1), aI l3, aR 48 0]) (cs' := []) (fun _ => rfl) al0 ?_
        obtain ⟨v6, Y4, hv5, h⟩ := bd_some h
        refine w_cV1 k227 (sn_178 _ _ _ _ hv5) rfl (st := []) rfl ?_ (fun _ _ q => q.elim)
        refine w_sg k227 1 (pc' := 22) (ls' := [(0, aR 48 0), (1, aI l1), (2, aI l2), (3, aI l3)]) (st' := [aI l1, aI v6]) (cs' := []) (fun _ => rfl) al0 ?_
        refine w_icmp_ne k227 rfl (fun c => ?_) (fun c => ?_)
        · replace h := if_f c h
          refine w_sg k227 1 (pc' := 40) (ls' := [(0, aR 48 0), (1, aI l1), (2, aI l2), (3, aI (l3 + (nI 1)))]) (st' := []) (cs' := []) (fun _ => rfl) al0 ?_
          refine w_sg k227 1 (pc' := 4) (ls' := [(0, aR 48 0), (1, aI l1), (2, aI l2), (3, aI (l3 + (nI 1)))]) (st' := []) (cs' := []) (fun _ => rfl) al0 ?_
          refine w_ls [(0, aR 48 0), (1, aI l1), (2, aI l2), (3, aI (l3 + (nI 1)))] (lq_c rfl (lq_c rfl (lq_c rfl (lq_c rfl lq_n)))) ?_
          obtain rfl := Option.some.inj h
          exact ih3 _ _ _ (lpn_l hn2)
        · replace h := if_t c h
          refine w_sg k227 2 (pc' := 27) (ls' := [(0, aR 48 0), (1, aI l1), (2, aI l2), (3, aI l3)]) (st' := [aI l3, aR 48 0]) (cs' := []) (fun _ => rfl) al0 ?_
          obtain ⟨v9, Y7, hv8, h⟩ := bd_some h
          refine w_cV1 k227 (sn_180 _ _ _ hv8) rfl (st := []) rfl ?_ (fun _ _ q => q.elim)
          refine w_if_eq k227 rfl (fun c => ?_) (fun c => ?_)
          · replace h := if_t c h
            refine w_sg k227 1 (pc' := 40) (ls' := [(0, aR 48 0), (1, aI l1), (2, aI l2), (3, aI (l3 + (nI 1)))]) (st' := []) (cs' := []) (fun _ => rfl) al0 ?_
            refine w_sg k227 1 (pc' := 4) (ls' := [(0, aR 48 0), (1, aI l1), (2, aI l2), (3, aI (l3 + (nI 1)))]) (st' := []) (cs' := []) (fun _ => rfl) al0 ?_
            refine w_ls [(0, aR 48 0), (1, aI l1), (2, aI l2), (3, aI (l3 + (nI 1)))] (lq_c rfl (lq_c rfl (lq_c rfl (lq_c rfl lq_n)))) ?_
            obtain rfl := Option.some.inj h
            exact ih3 _ _ _ (lpn_l hn2)
          · replace h := if_f c h
            refine w_sg k227 4 (pc' := 37) (ls' := [(0, aR 48 0), (1, aI l1), (2, aI (l2 + (nI 1))), (3, aI l3)]) (st' := []) (cs' := []) (fun _ => rfl) al0 ?_
            refine w_sg k227 1 (pc' := 40) (ls' := [(0, aR 48 0), (1, aI l1), (2, aI (l2 + (nI 1))), (3, aI (l3 + (nI 1)))]) (st' := []) (cs' := []) (fun _ => rfl) al0 ?_
            refine w_sg k227 1 (pc' := 4) (ls' := [(0, aR 48 0), (1, aI l1), (2, aI (l2 + (nI 1))), (3, aI (l3 + (nI 1)))]) (st' := []) (cs' := []) (fun _ => rfl) al0 ?_
            refine w_ls [(0, aR 48 0), (1, aI l1), (2, aI (l2 + (nI 1))), (3, aI (l3 + (nI 1)))] (lq_c rfl (lq_c rfl (lq_c rfl (lq_c rfl lq_n)))) ?_
            obtain rfl := Option.some.inj h
            exact ih3 _ _ _ (lpn_l hn2)
  refine w_sg k227 2 (pc' := 2) (ls' := [(0, aR 48 0), (1, aI a1), (2, aI (nI 0))]) (st' := []) (cs' := []) (fun _ => rfl) al0 ?_
  refine w_sg k227 2 (pc' := 4) (ls' := [(0, aR 48 0), (1, aI a1), (2, aI (nI 0)), (3, aI (nI 0))]) (st' := []) (cs' := []) (fun _ => rfl) al0 ?_
  refine w_ls [(0, aR 48 0), (1, aI a1), (2, aI (nI 0)), (3, aI (nI 0))] (lq_c rfl (lq_c rfl (lq_c rfl (lq_c rfl lq_n)))) ?_
  exact L4_0 _ _ _ _ _ h
set_option maxRecDepth 20000 in
set_option maxHeartbeats 4000000 in
/-- BallotBusModel.asker -/
theorem sn_228 (a1 : Int32) (a2 : Int32) {Y : Sm} (v : Int32) (Z : Sm) (h : fn_228 a1 a2 Y = some (v, Z)) : Mt 7 0 228 [aR 48 0, aI a1, aI a2] Y (Rt (some (aI v)) Z) nX := by
  refine Mt_of [(0, aR 48 0), (1, aI a1), (2, aI a2)] ?_
  generalize ho : (v, Z) = o at h
  have hv9 : v = o.1 := congrArg Prod.fst ho
  have hZ9 : Z = o.2 := congrArg Prod.snd ho
  clear ho
  subst hv9 hZ9
  unfold fn_228 at h
  have J26_0 : ∀ (l1 : Int32) (l2 : Int32) (t0 : Int32) (Y : Sm), fn_228_J26 l1 l2 t0 Y = some o → Wm 7 0 228 0 26 [(0, aR 48 0), (1, aI l1), (2, aI l2)] [aI t0, aR 48 0] Y (Rt (some (aI o.1)) o.2) nX := by
    intro l1 l2 t0 Y h
    unfold fn_228_J26 at h
    obtain ⟨v6, Y4, hv5, h⟩ := bd_some h
    refine w_cV1 k228 (sn_164 _ _ _ hv5) rfl (st := []) rfl ?_ (fun _ _ q => q.elim)
    refine w_if_ne k228 rfl (fun c => ?_) (fun c => ?_)
    · replace h := if_f c h
      refine w_sg k228 1 (pc' := 35) (ls' := [(0, aR 48 0), (1, aI l1), (2, aI l2)]) (st' := [aI l2]) (cs' := []) (fun _ => rfl) al0 ?_
      by_cases c8 : l2 = (nI 0)
      · replace h := if_t c8 h
        refine w_swAt k228 0 rfl rfl rfl rfl c8 ?_
        obtain ⟨hc17, h⟩ := ck_some h
        refine w_sg k228 6 (pc' := 93) (ls' := [(0, aR 48 0), (1, aI l1), (2, aI l2)]) (st' := [aI (gI Y4.1 52 0 (ix ((nI 20) + l1)))]) (cs' := [vp_in ((nI 20) + l1) 718]) (fun _ => rfl) (al1 (vin hc17)) ?_
        obtain rfl := Option.some.inj h
        exact w_ireturn k228 ⟨rfl, rfl⟩
      replace h := if_f c8 h
      by_cases c9 : l2 = (nI 1)
      · replace h := if_t c9 h
        refine w_swAt k228 1 rfl rfl rfl rfl c9 ?_
        obtain ⟨hc18, h⟩ := ck_some h
        refine w_sg k228 6 (pc' := 103) (ls' := [(0, aR 48 0), (1, aI l1), (2, aI l2)]) (st' := [aI (gI Y4.1 52 0 (ix ((nI 28) + l1)))]) (cs' := [vp_in ((nI 28) + l1) 718]) (fun _ => rfl) (al1 (vin hc18)) ?_
        obtain rfl := Option.some.inj h
        exact w_ireturn k228 ⟨rfl, rfl⟩
      replace h := if_f c9 h
      by_cases c10 : l2 = (nI 2)
      · replace h := if_t c10 h
        refine w_swAt k228 2 rfl rfl rfl rfl c10 ?_
        obtain ⟨hc19, h⟩ := ck_some h
        refine w_sg k228 4 (pc' := 110) (ls' := [(0, aR 48 0), (1, aI l1), (2, aI l2)]) (st' := [aI (gI Y4.1 49 0 (ix l1))]) (cs' := [vp_in l1 8]) (fun _ => rfl) (al1 (vin hc19)) ?_
        obtain rfl := Option.some.inj h
        exact w_ireturn k228 ⟨rfl, rfl⟩
      replace h := if_f c10 h
      by_cases c11 : l2 = (nI 3)
      · replace h := if_t c11 h
        refine w_swAt k228 3 rfl rfl rfl rfl c11 ?_
        obtain ⟨hc20, h⟩ := ck_some h
        refine w_sg k228 6 (pc' := 120) (ls' := [(0, aR 48 0), (1, aI l1), (2, aI l2)]) (st' := [aI (gI Y4.1 52 0 (ix ((nI 36) + l1)))]) (cs' := [vp_in ((nI 36) + l1) 718]) (fun _ => rfl) (al1 (vin hc20)) ?_
        obtain rfl := Option.some.inj h
        exact w_ireturn k228 ⟨rfl, rfl⟩
      replace h := if_f c11 h
      by_cases c12 : l2 = (nI 4)
      · replace h := if_t c12 h
        refine w_swAt k228 4 rfl rfl rfl rfl c12 ?_
        refine w_sg k228 2 (pc' := 123) (ls' := [(0, aR 48 0), (1, aI l1), (2, aI l2)]) (st' := [aI l1, aR 48 0]) (cs' := []) (fun _ => rfl) al0 ?_
        obtain ⟨v23, Y21, hv22, h⟩ := bd_some h
        refine w_cV1 k228 (sn_189 _ _ _ hv22) rfl (st := []) rfl ?_ (fun _ _ q => q.elim)
        refine w_if_eq k228 rfl (fun c => ?_) (fun c => ?_)
        · replace h := if_t c h
          refine w_sg k228 1 (pc' := 134) (ls' := [(0, aR 48 0), (1, aI l1), (2, aI l2)]) (st' := [aI (nI 0)]) (cs' := []) (fun _ => rfl) al0 ?_
          obtain rfl := Option.some.inj h
          exact w_ireturn k228 ⟨rfl, rfl⟩
        · replace h := if_f c h
          refine w_sg k228 2 (pc' := 134) (ls' := [(0, aR 48 0), (1, aI l1), (2, aI l2)]) (st' := [aI (nI 1)]) (cs' := []) (fun _ => rfl) al0 ?_
          obtain rfl := Option.some.inj h
          exact w_ireturn k228 ⟨rfl, rfl⟩
      replace h := if_f c12 h
      by_cases c13 : l2 = (nI 5)
      · replace h := if_t c13 h
        refine w_swAt k228 5 rfl rfl rfl rfl c13 ?_
        refine w_sg k228 5 (pc' := 142) (ls' := [(0, aR 48 0), (1, aI l1), (2, aI l2)]) (st' := [aI l1, aI (gI Y4.1 52 0 2)]) (cs' := [vp_in (nI 2) 718]) (fun _ => rfl) (al1 (vin rfl)) ?_
        refine w_icmp_ne k228 rfl (fun c => ?_) (fun c => ?_)
        · replace h := if_f c h
          refine w_sg k228 1 (pc' := 160) (ls' := [(0, aR 48 0), (1, aI l1), (2, aI l2)]) (st' := [aI (nI 0)]) (cs' := []) (fun _ => rfl) al0 ?_
          obtain rfl := Option.some.inj h
          exact w_ireturn k228 ⟨rfl, rfl⟩
        · replace h := if_t c h
          refine w_sg k228 5 (pc' := 152) (ls' := [(0, aR 48 0), (1, aI l1), (2, aI l2)]) (st' := [aI (nI 1), aI (gI Y4.1 52 0 3)]) (cs' := [vp_in (nI 3) 718]) (fun _ => rfl) (al1 (vin rfl)) ?_
          refine w_icmp_ne k228 rfl (fun c => ?_) (fun c => ?_)
          · replace h := if_f c h
            refine w_sg k228 1 (pc' := 160) (ls' := [(0, aR 48 0), (1, aI l1), (2, aI l2)]) (st' := [aI (nI 0)]) (cs' := []) (fun _ => rfl) al0 ?_
            obtain rfl := Option.some.inj h
            exact w_ireturn k228 ⟨rfl, rfl⟩
          · replace h := if_t c h
            refine w_sg k228 2 (pc' := 160) (ls' := [(0, aR 48 0), (1, aI l1), (2, aI l2)]) (st' := [aI (nI 1)]) (cs' := []) (fun _ => rfl) al0 ?_
            obtain rfl := Option.some.inj h
            exact w_ireturn k228 ⟨rfl, rfl⟩
      replace h := if_f c13 h
      by_cases c14 : l2 = (nI 6)
      · replace h := if_t c14 h
        refine w_swAt k228 6 rfl rfl rfl rfl c14 ?_
        refine w_sg k228 2 (pc' := 163) (ls' := [(0, aR 48 0), (1, aI l1), (2, aI l2)]) (st' := [aI l1, aR 48 0]) (cs' := []) (fun _ => rfl) al0 ?_
        obtain ⟨v26, Y24, hv25, h⟩ := bd_some h
        refine w_cV1 k228 (sn_227 _ _ _ hv25) rfl (st := []) rfl ?_ (fun _ _ q => q.elim)
        obtain rfl := Option.some.inj h
        exact w_ireturn k228 ⟨rfl, rfl⟩
      replace h := if_f c14 h
      by_cases c15 : l2 = (nI 7)
      · replace h := if_t c15 h
        refine w_swAt k228 7 rfl rfl rfl rfl c15 ?_
        obtain ⟨hc27, h⟩ := ck_some h
        refine w_sg k228 6 (pc' := 176) (ls' := [(0, aR 48 0), (1, aI l1), (2, aI l2)]) (st' := [aI (gI Y4.1 52 0 (ix ((nI 52) + l1)))]) (cs' := [vp_in ((nI 52) + l1) 718]) (fun _ => rfl) (al1 (vin hc27)) ?_
        obtain rfl := Option.some.inj h
        exact w_ireturn k228 ⟨rfl, rfl⟩
      replace h := if_f c15 h
      by_cases c16 : l2 = (nI 8)
      · replace h := if_t c16 h
        refine w_swAt k228 8 rfl rfl rfl rfl c16 ?_
        obtain ⟨hc28, h⟩ := ck_some h
        refine w_sg k228 6 (pc' := 186) (ls' := [(0, aR 48 0), (1, aI l1), (2, aI l2)]) (st' := [aI (gI Y4.1 52 0 (ix ((nI 60) + l1)))]) (cs' := [vp_in ((nI 60) + l1) 718]) (fun _ => rfl) (al1 (vin hc28)) ?_
        obtain rfl := Option.some.inj h
        exact w_ireturn k228 ⟨rfl, rfl⟩
      replace h := if_f c16 h
      refine w_swOut k228 rfl rfl rfl (nsw_s (nsw_s (nsw_s (nsw_s (nsw_s (nsw_s (nsw_s (nsw_s (nsw_s nsw_0 c8) c9) c10) c11) c12) c13) c14) c15) c16) ?_
      obtain ⟨hc7, h⟩ := ck_some h
      refine w_sg k228 6 (pc' := 196) (ls' := [(0, aR 48 0), (1, aI l1), (2, aI l2)]) (st' := [aI (gI Y4.1 52 0 (ix ((nI 44) + l1)))]) (cs' := [vp_in ((nI 44) + l1) 718]) (fun _ => rfl) (al1 (vin hc7)) ?_
      obtain rfl := Option.some.inj h
      exact w_ireturn k228 ⟨rfl, rfl⟩
    · replace h := if_t c h
      refine w_sg k228 1 (pc' := 33) (ls' := [(0, aR 48 0), (1, aI l1), (2, aI l2)]) (st' := [aI (nI 0)]) (cs' := []) (fun _ => rfl) al0 ?_
      obtain rfl := Option.some.inj h
      exact w_ireturn k228 ⟨rfl, rfl⟩
  have J25_0 : ∀ (l1 : Int32) (l2 : Int32) (Y : Sm), fn_228_J25 l1 l2 Y = some o → Wm 7 0 228 0 25 [(0, aR 48 0), (1, aI l1), (2, aI l2)] [aR 48 0] Y (Rt (some (aI o.1)) o.2) nX := by
    intro l1 l2 Y h
    unfold fn_228_J25 at h
    refine w_sg k228 1 (pc' := 26) (ls' := [(0, aR 48 0), (1, aI l1), (2, aI l2)]) (st' := [aI (nI 0), aR 48 0]) (cs' := []) (fun _ => rfl) al0 ?_
    refine w_ls [(0, aR 48 0), (1, aI l1), (2, aI l2)] (lq_c rfl (lq_c rfl (lq_c rfl lq_n))) ?_
    exact J26_0 _ _ _ _ h
  refine w_sg k228 3 (pc' := 3) (ls' := [(0, aR 48 0), (1, aI a1), (2, aI a2)]) (st' := [aI a1, aR 48 0, aR 48 0]) (cs' := []) (fun _ => rfl) al0 ?_
  obtain ⟨v3, Y1, hv2, h⟩ := bd_some h
  refine w_cV1 k228 (sn_208 _ _ _ hv2) rfl (st := [aR 48 0]) rfl ?_ (fun _ _ q => q.elim)
  refine w_if_eq k228 rfl (fun c => ?_) (fun c => ?_)
  · replace h := if_t c h
    refine w_ls [(0, aR 48 0), (1, aI a1), (2, aI a2)] (lq_c rfl (lq_c rfl (lq_c rfl lq_n))) ?_
    exact J25_0 _ _ _ h
  · replace h := if_f c h
    refine w_sg k228 4 (pc' := 15) (ls' := [(0, aR 48 0), (1, aI a1), (2, aI a2)]) (st' := [aJ (((nI 9)).toInt64), aJ (Int64.ofNat 0), aJ ((a2).toInt64), aR 48 0]) (cs' := []) (fun _ => rfl) al0 ?_
    obtain ⟨v31, Y29, hv30, h⟩ := bd_some h
    refine w_cS1 k228 (sn_166 _ _ _ _ _ hv30) rfl (st := [aR 48 0]) rfl ?_ (fun _ _ q => q.elim)
    refine w_if_eq k228 rfl (fun c => ?_) (fun c => ?_)
    · replace h := if_t c h
      refine w_ls [(0, aR 48 0), (1, aI a1), (2, aI a2)] (lq_c rfl (lq_c rfl (lq_c rfl lq_n))) ?_
      exact J25_0 _ _ _ h
    · replace h := if_f c h
      refine w_sg k228 2 (pc' := 26) (ls' := [(0, aR 48 0), (1, aI a1), (2, aI a2)]) (st' := [aI (nI 1), aR 48 0]) (cs' := []) (fun _ => rfl) al0 ?_
      refine w_ls [(0, aR 48 0), (1, aI a1), (2, aI a2)] (lq_c rfl (lq_c rfl (lq_c rfl lq_n))) ?_
      exact J26_0 _ _ _ _ h
set_option maxRecDepth 20000 in
set_option maxHeartbeats 4000000 in
/-- BallotBusModel.serialAt -/
theorem sn_232 (a1 : Int32) {Y : Sm} (v : Int32) (Z : Sm) (h : fn_232 a1 Y = some (v, Z)) : Mt 5 0 232 [aR 48 0, aI a1] Y (Rt (some (aI v)) Z) nX := by
  refine Mt_of [(0, aR 48 0), (1, aI a1)] ?_
  generalize ho : (v, Z) = o at h
  have hv9 : v = o.1 := congrArg Prod.fst ho
  have hZ9 : Z = o.2 := congrArg Prod.snd ho
  clear ho
  subst hv9 hZ9
  unfold fn_232 at h
  refine w_sg k232 2 (pc' := 2) (ls' := [(0, aR 48 0), (1, aI a1)]) (st' := [aI (-1 : Int32), aI a1]) (cs' := []) (fun _ => rfl) al0 ?_
  refine w_icmp_ne k232 rfl (fun c => ?_) (fun c => ?_)
  · replace h := if_f c h
    refine w_sg k232 3 (pc' := 12) (ls' := [(0, aR 48 0), (1, aI a1)]) (st' := [aI (nI 0), aI a1, aR 48 0]) (cs' := []) (fun _ => rfl) al0 ?_
    obtain ⟨v3, Y1, hv2, h⟩ := bd_some h
    refine w_cV1 k232 (sn_178 _ _ _ _ hv2) rfl (st := []) rfl ?_ (fun _ _ q => q.elim)
    obtain rfl := Option.some.inj h
    exact w_ireturn k232 ⟨rfl, rfl⟩
  · replace h := if_t c h
    refine w_sg k232 2 (pc' := 15) (ls' := [(0, aR 48 0), (1, aI a1)]) (st' := [aI (-1 : Int32)]) (cs' := []) (fun _ => rfl) al0 ?_
    obtain rfl := Option.some.inj h
    exact w_ireturn k232 ⟨rfl, rfl⟩
set_option maxRecDepth 20000 in
set_option maxHeartbeats 4000000 in
/-- BallotBusModel.waitingIn -/
theorem sn_229 (a1 : Int32) {Y : Sm} (v : Int32) (Z : Sm) (h : fn_229 a1 Y = some (v, Z)) : Mt 7 0 229 [aR 48 0, aI a1] Y (Rt (some (aI v)) Z) nX := by
  refine Mt_of [(0, aR 48 0), (1, aI a1)] ?_
  generalize ho : (v, Z) = o at h
  have hv9 : v = o.1 := congrArg Prod.fst ho
  have hZ9 : Z = o.2 := congrArg Prod.snd ho
  clear ho
  subst hv9 hZ9
  unfold fn_229 at h
  have L4_0 : ∀ (l1 : Int32) (n : Nat) (l2 : Int32) (l3 : Int32) (Y : Sm), lp (fun s => fn_229_L4 l1 s.1 s.2.1 s.2.2) n (l2, l3, Y) = some o → Wm 7 0 229 0 4 [(0, aR 48 0), (1, aI l1), (2, aI l2), (3, aI l3)] [] Y (Rt (some (aI o.1)) o.2) nX := by
    intro l1 n
    induction n with
    | zero => intro l2 l3 Y h; cases h
    | succ n ih3 =>
      intro l2 l3 Y h
      obtain ⟨q1, h, hn2⟩ := lp_succ h
      replace h : fn_229_L4 l1 l2 l3 Y = some q1 := h
      unfold fn_229_L4 at h
      refine w_sg k229 5 (pc' := 12) (ls' := [(0, aR 48 0), (1, aI l1), (2, aI l2), (3, aI l3)]) (st' := [aI (gI Y.1 52 0 9), aI l3]) (cs' := [vp_in (nI 9) 718]) (fun _ => rfl) (al1 (vin rfl)) ?_
      refine w_icmp_ge k229 rfl (fun c => ?_) (fun c => ?_)
      · replace h := if_t c h
        refine w_sg k229 1 (pc' := 35) (ls' := [(0, aR 48 0), (1, aI l1), (2, aI l2), (3, aI l3)]) (st' := [aI l2]) (cs' := []) (fun _ => rfl) al0 ?_
        obtain rfl := Option.some.inj h
        obtain rfl := lpn_r hn2
        exact w_ireturn k229 ⟨rfl, rfl⟩
      · replace h := if_f c h
        refine w_sg k229 3 (pc' := 18) (ls' := [(0, aR 48 0), (1, aI l1), (2, aI l2), (3, aI l3)]) (st' := [aI l1, aI l3, aR 48 0]) (cs' := []) (fun _ => rfl) al0 ?_
        obtain ⟨v6, Y4, hv5, h⟩ := bd_some h
        refine w_cV1 k229 (sn_186 _ _ _ _ hv5) rfl (st := []) rfl ?_ (fun _ _ q => q.elim)
        refine w_if_eq k229 rfl (fun c => ?_) (fun c => ?_)
        · replace h := if_t c h
          refine w_sg k229 1 (pc' := 31) (ls' := [(0, aR 48 0), (1, aI l1), (2, aI l2), (3, aI (l3 + (nI 1)))]) (st' := []) (cs' := []) (fun _ => rfl) al0 ?_
          refine w_sg k229 1 (pc' := 4) (ls' := [(0, aR 48 0), (1, aI l1), (2, aI l2), (3, aI (l3 + (nI 1)))]) (st' := []) (cs' := []) (fun _ => rfl) al0 ?_
          refine w_ls [(0, aR 48 0), (1, aI l1), (2, aI l2), (3, aI (l3 + (nI 1)))] (lq_c rfl (lq_c rfl (lq_c rfl (lq_c rfl lq_n)))) ?_
          obtain rfl := Option.some.inj h
          exact ih3 _ _ _ (lpn_l hn2)
        · replace h := if_f c h
          refine w_sg k229 4 (pc' := 28) (ls' := [(0, aR 48 0), (1, aI l1), (2, aI (l2 + (nI 1))), (3, aI l3)]) (st' := []) (cs' := []) (fun _ => rfl) al0 ?_
          refine w_sg k229 1 (pc' := 31) (ls' := [(0, aR 48 0), (1, aI l1), (2, aI (l2 + (nI 1))), (3, aI (l3 + (nI 1)))]) (st' := []) (cs' := []) (fun _ => rfl) al0 ?_
          refine w_sg k229 1 (pc' := 4) (ls' := [(0, aR 48 0), (1, aI l1), (2, aI (l2 + (nI 1))), (3, aI (l3 + (nI 1)))]) (st' := []) (cs' := []) (fun _ => rfl) al0 ?_
          refine w_ls [(0, aR 48 0), (1, aI l1), (2, aI (l2 + (nI 1))), (3, aI (l3 + (nI 1)))] (lq_c rfl (lq_c rfl (lq_c rfl (lq_c rfl lq_n)))) ?_
          obtain rfl := Option.some.inj h
          exact ih3 _ _ _ (lpn_l hn2)
  refine w_sg k229 2 (pc' := 2) (ls' := [(0, aR 48 0), (1, aI a1), (2, aI (nI 0))]) (st' := []) (cs' := []) (fun _ => rfl) al0 ?_
  refine w_sg k229 2 (pc' := 4) (ls' := [(0, aR 48 0), (1, aI a1), (2, aI (nI 0)), (3, aI (nI 0))]) (st' := []) (cs' := []) (fun _ => rfl) al0 ?_
  refine w_ls [(0, aR 48 0), (1, aI a1), (2, aI (nI 0)), (3, aI (nI 0))] (lq_c rfl (lq_c rfl (lq_c rfl (lq_c rfl lq_n)))) ?_
  exact L4_0 _ _ _ _ _ h
set_option maxRecDepth 20000 in
set_option maxHeartbeats 4000000 in
/-- BallotBusModel.placeInOrder -/
theorem sn_230 (a1 : Int32) {Y : Sm} (v : Int32) (Z : Sm) (h : fn_230 a1 Y = some (v, Z)) : Mt 4 0 230 [aR 48 0, aI a1] Y (Rt (some (aI v)) Z) nX := by
  refine Mt_of [(0, aR 48 0), (1, aI a1)] ?_
  generalize ho : (v, Z) = o at h
  have hv9 : v = o.1 := congrArg Prod.fst ho
  have hZ9 : Z = o.2 := congrArg Prod.snd ho
  clear ho
  subst hv9 hZ9
  unfold fn_230 at h
  have L2_0 : ∀ (l1 : Int32) (n : Nat) (l2 : Int32) (Y : Sm), lp (fun s => fn_230_L2 l1 s.1 s.2) n (l2, Y) = some o → Wm 4 0 230 0 2 [(0, aR 48 0), (1, aI l1), (2, aI l2)] [] Y (Rt (some (aI o.1)) o.2) nX := by
    intro l1 n
    induction n with
    | zero => intro l2 Y h; cases h
    | succ n ih3 =>
      intro l2 Y h
      obtain ⟨q1, h, hn2⟩ := lp_succ h
      replace h : fn_230_L2 l1 l2 Y = some q1 := h
      unfold fn_230_L2 at h
      obtain ⟨hc4, h⟩ := ck_some h
      refine w_sg k230 7 (pc' := 12) (ls' := [(0, aR 48 0), (1, aI l1), (2, aI l2)]) (st' := [aI l1, aI (gI Y.1 52 0 (ix ((nI 10) + l2)))]) (cs' := [vp_in ((nI 10) + l2) 718]) (fun _ => rfl) (al1 (vin hc4)) ?_
      refine w_icmp_eq k230 rfl (fun c => ?_) (fun c => ?_)
      · replace h := if_t c h
        refine w_sg k230 1 (pc' := 23) (ls' := [(0, aR 48 0), (1, aI l1), (2, aI l2)]) (st' := [aI l2]) (cs' := []) (fun _ => rfl) al0 ?_
        obtain rfl := Option.some.inj h
        obtain rfl := lpn_r hn2
        exact w_ireturn k230 ⟨rfl, rfl⟩
      · replace h := if_f c h
        refine w_sg k230 4 (pc' := 19) (ls' := [(0, aR 48 0), (1, aI l1), (2, aI (l2 + (nI 1)))]) (st' := []) (cs' := []) (fun _ => rfl) al0 ?_
        refine w_sg k230 1 (pc' := 2) (ls' := [(0, aR 48 0), (1, aI l1), (2, aI (l2 + (nI 1)))]) (st' := []) (cs' := []) (fun _ => rfl) al0 ?_
        refine w_ls [(0, aR 48 0), (1, aI l1), (2, aI (l2 + (nI 1)))] (lq_c rfl (lq_c rfl (lq_c rfl lq_n))) ?_
        obtain rfl := Option.some.inj h
        exact ih3 _ _ (lpn_l hn2)
  refine w_sg k230 2 (pc' := 2) (ls' := [(0, aR 48 0), (1, aI a1), (2, aI (nI 0))]) (st' := []) (cs' := []) (fun _ => rfl) al0 ?_
  refine w_ls [(0, aR 48 0), (1, aI a1), (2, aI (nI 0))] (lq_c rfl (lq_c rfl (lq_c rfl lq_n))) ?_
  exact L2_0 _ _ _ _ h
set_option maxRecDepth 20000 in
set_option maxHeartbeats 4000000 in
/-- BallotBusModel.kind -/
theorem sn_231 (a1 : Int32) (a2 : Int32) {Y : Sm} (v : Int32) (Z : Sm) (h : fn_231 a1 a2 Y = some (v, Z)) : Mt 9 0 231 [aR 48 0, aI a1, aI a2] Y (Rt (some (aI v)) Z) nX := by
  refine Mt_of [(0, aR 48 0), (1, aI a1), (2, aI a2)] ?_
  generalize ho : (v, Z) = o at h
  have hv9 : v = o.1 := congrArg Prod.fst ho
  have hZ9 : Z = o.2 := congrArg Prod.snd ho
  clear ho
  subst hv9 hZ9
  unfold fn_231 at h
  have J26_0 : ∀ (l1 : Int32) (l2 : Int32) (t0 : Int32) (Y : Sm), fn_231_J26 l1 l2 t0 Y = some o → Wm 9 0 231 0 26 [(0, aR 48 0), (1, aI l1), (2, aI l2)] [aI t0, aR 48 0] Y (Rt (some (aI o.1)) o.2) nX := by
    intro l1 l2 t0 Y h
    unfold fn_231_J26 at h
    obtain ⟨v6, Y4, hv5, h⟩ := bd_some h
    refine w_cV1 k231 (sn_164 _ _ _ hv5) rfl (st := []) rfl ?_ (fun _ _ q => q.elim)
    refine w_if_ne k231 rfl (fun c => ?_) (fun c => ?_)
    · replace h := if_f c h
      refine w_sg k231 1 (pc' := 35) (ls' := [(0, aR 48 0), (1, aI l1), (2, aI l2)]) (st' := [aI l2]) (cs' := []) (fun _ => rfl) al0 ?_
      by_cases c13 : l2 = (nI 0)
      · replace h := if_t c13 h
        refine w_swAt k231 0 rfl rfl rfl rfl c13 ?_
        obtain ⟨hc18, h⟩ := ck_some h
        refine w_sg k231 6 (pc' := 77) (ls' := [(0, aR 48 0), (1, aI l1), (2, aI l2)]) (st' := [aI (gI Y4.1 52 0 (ix ((nI 15) + l1)))]) (cs' := [vp_in ((nI 15) + l1) 718]) (fun _ => rfl) (al1 (vin hc18)) ?_
        obtain rfl := Option.some.inj h
        exact w_ireturn k231 ⟨rfl, rfl⟩
      replace h := if_f c13 h
      by_cases c14 : l2 = (nI 1)
      · replace h := if_t c14 h
        refine w_swAt k231 1 rfl rfl rfl rfl c14 ?_
        refine w_sg k231 2 (pc' := 80) (ls' := [(0, aR 48 0), (1, aI l1), (2, aI l2)]) (st' := [aI l1, aR 48 0]) (cs' := []) (fun _ => rfl) al0 ?_
        obtain ⟨v21, Y19, hv20, h⟩ := bd_some h
        refine w_cV1 k231 (sn_229 _ _ _ hv20) rfl (st := []) rfl ?_ (fun _ _ q => q.elim)
        obtain rfl := Option.some.inj h
        exact w_ireturn k231 ⟨rfl, rfl⟩
      replace h := if_f c14 h
      by_cases c15 : l2 = (nI 2)
      · replace h := if_t c15 h
        refine w_swAt k231 2 rfl rfl rfl rfl c15 ?_
        obtain ⟨hc22, h⟩ := ck_some h
        refine w_sg k231 6 (pc' := 93) (ls' := [(0, aR 48 0), (1, aI l1), (2, aI l2)]) (st' := [aI (gI Y4.1 52 0 (ix ((nI 68) + l1)))]) (cs' := [vp_in ((nI 68) + l1) 718]) (fun _ => rfl) (al1 (vin hc22)) ?_
        obtain rfl := Option.some.inj h
        exact w_ireturn k231 ⟨rfl, rfl⟩
      replace h := if_f c15 h
      by_cases c16 : l2 = (nI 3)
      · replace h := if_t c16 h
        refine w_swAt k231 3 rfl rfl rfl rfl c16 ?_
        refine w_sg k231 2 (pc' := 96) (ls' := [(0, aR 48 0), (1, aI l1), (2, aI l2)]) (st' := [aI l1, aR 48 0]) (cs' := []) (fun _ => rfl) al0 ?_
        obtain ⟨v25, Y23, hv24, h⟩ := bd_some h
        refine w_cV1 k231 (sn_230 _ _ _ hv24) rfl (st := []) rfl ?_ (fun _ _ q => q.elim)
        obtain rfl := Option.some.inj h
        exact w_ireturn k231 ⟨rfl, rfl⟩
      replace h := if_f c16 h
      by_cases c17 : l2 = (nI 4)
      · replace h := if_t c17 h
        refine w_swAt k231 4 rfl rfl rfl rfl c17 ?_
        refine w_sg k231 5 (pc' := 107) (ls' := [(0, aR 48 0), (1, aI l1), (2, aI l2)]) (st' := [aI l1, aI (gI Y4.1 52 0 4)]) (cs' := [vp_in (nI 4) 718]) (fun _ => rfl) (al1 (vin rfl)) ?_
        obtain ⟨v28, Y26, hv27, h⟩ := bd_some h
        refine w_cS1 k231 (sn_167 _ _ _ _ hv27) rfl (st := []) rfl ?_ (fun _ _ q => q.elim)
        refine w_if_eq k231 rfl (fun c => ?_) (fun c => ?_)
        · replace h := if_t c h
          refine w_sg k231 1 (pc' := 118) (ls' := [(0, aR 48 0), (1, aI l1), (2, aI l2)]) (st' := [aI (nI 0)]) (cs' := []) (fun _ => rfl) al0 ?_
          obtain rfl := Option.some.inj h
          exact w_ireturn k231 ⟨rfl, rfl⟩
        · replace h := if_f c h
          refine w_sg k231 2 (pc' := 118) (ls' := [(0, aR 48 0), (1, aI l1), (2, aI l2)]) (st' := [aI (nI 1)]) (cs' := []) (fun _ => rfl) al0 ?_
          obtain rfl := Option.some.inj h
          exact w_ireturn k231 ⟨rfl, rfl⟩
      replace h := if_f c17 h
      refine w_swOut k231 rfl rfl rfl (nsw_s (nsw_s (nsw_s (nsw_s (nsw_s nsw_0 c13) c14) c15) c16) c17) ?_
      refine w_sg k231 4 (pc' := 123) (ls' := [(0, aR 48 0), (1, aI l1), (2, aI l2)]) (st' := [aI (nI 0), aI l1, aR 48 0, aR 48 0]) (cs' := []) (fun _ => rfl) al0 ?_
      obtain ⟨v9, Y7, hv8, h⟩ := bd_some h
      refine w_cV1 k231 (sn_188 _ _ _ _ hv8) rfl (st := [aR 48 0]) rfl ?_ (fun _ _ q => q.elim)
      obtain ⟨v12, Y10, hv11, h⟩ := bd_some h
      refine w_cV1 k231 (sn_232 _ _ _ hv11) rfl (st := []) rfl ?_ (fun _ _ q => q.elim)
      obtain rfl := Option.some.inj h
      exact w_ireturn k231 ⟨rfl, rfl⟩
    · replace h := if_t c h
      refine w_sg k231 1 (pc' := 33) (ls' := [(0, aR 48 0), (1, aI l1), (2, aI l2)]) (st' := [aI (nI 0)]) (cs' := []) (fun _ => rfl) al0 ?_
      obtain rfl := Option.some.inj h
      exact w_ireturn k231 ⟨rfl, rfl⟩
  have J25_0 : ∀ (l1 : Int32) (l2 : Int32) (Y : Sm), fn_231_J25 l1 l2 Y = some o → Wm 9 0 231 0 25 [(0, aR 48 0), (1, aI l1), (2, aI l2)] [aR 48 0] Y (Rt (some (aI o.1)) o.2) nX := by
    intro l1 l2 Y h
    unfold fn_231_J25 at h
    refine w_sg k231 1 (pc' := 26) (ls' := [(0, aR 48 0), (1, aI l1), (2, aI l2)]) (st' := [aI (nI 0), aR 48 0]) (cs' := []) (fun _ => rfl) al0 ?_
    refine w_ls [(0, aR 48 0), (1, aI l1), (2, aI l2)] (lq_c rfl (lq_c rfl (lq_c rfl lq_n))) ?_
    exact J26_0 _ _ _ _ h
  refine w_sg k231 3 (pc' := 3) (ls' := [(0, aR 48 0), (1, aI a1), (2, aI a2)]) (st' := [aI a1, aR 48 0, aR 48 0]) (cs' := []) (fun _ => rfl) al0 ?_
  obtain ⟨v3, Y1, hv2, h⟩ := bd_some h
  refine w_cV1 k231 (sn_209 _ _ _ hv2) rfl (st := [aR 48 0]) rfl ?_ (fun _ _ q => q.elim)
  refine w_if_eq k231 rfl (fun c => ?_) (fun c => ?_)
  · replace h := if_t c h
    refine w_ls [(0, aR 48 0), (1, aI a1), (2, aI a2)] (lq_c rfl (lq_c rfl (lq_c rfl lq_n))) ?_
    exact J25_0 _ _ _ h
  · replace h := if_f c h
    refine w_sg k231 4 (pc' := 15) (ls' := [(0, aR 48 0), (1, aI a1), (2, aI a2)]) (st' := [aJ (((nI 5)).toInt64), aJ (Int64.ofNat 0), aJ ((a2).toInt64), aR 48 0]) (cs' := []) (fun _ => rfl) al0 ?_
    obtain ⟨v31, Y29, hv30, h⟩ := bd_some h
    refine w_cS1 k231 (sn_166 _ _ _ _ _ hv30) rfl (st := [aR 48 0]) rfl ?_ (fun _ _ q => q.elim)
    refine w_if_eq k231 rfl (fun c => ?_) (fun c => ?_)
    · replace h := if_t c h
      refine w_ls [(0, aR 48 0), (1, aI a1), (2, aI a2)] (lq_c rfl (lq_c rfl (lq_c rfl lq_n))) ?_
      exact J25_0 _ _ _ h
    · replace h := if_f c h
      refine w_sg k231 2 (pc' := 26) (ls' := [(0, aR 48 0), (1, aI a1), (2, aI a2)]) (st' := [aI (nI 1), aR 48 0]) (cs' := []) (fun _ => rfl) al0 ?_
      refine w_ls [(0, aR 48 0), (1, aI a1), (2, aI a2)] (lq_c rfl (lq_c rfl (lq_c rfl lq_n))) ?_
      exact J26_0 _ _ _ _ h
set_option maxRecDepth 20000 in
set_option maxHeartbeats 4000000 in
/-- BallotBusModel.ballot -/
theorem sn_233 (a1 : Int32) (a2 : Int32) {Y : Sm} (v : Int32) (Z : Sm) (h : fn_233 a1 a2 Y = some (v, Z)) : Mt 6 0 233 [aR 48 0, aI a1, aI a2] Y (Rt (some (aI v)) Z) nX := by
  refine Mt_of [(0, aR 48 0), (1, aI a1), (2, aI a2)] ?_
  generalize ho : (v, Z) = o at h
  have hv9 : v = o.1 := congrArg Prod.fst ho
  have hZ9 : Z = o.2 := congrArg Prod.snd ho
  clear ho
  subst hv9 hZ9
  unfold fn_233 at h
  have J22_0 : ∀ (l1 : Int32) (l2 : Int32) (t0 : Int32) (Y : Sm), fn_233_J22 l1 l2 t0 Y = some o → Wm 6 0 233 0 22 [(0, aR 48 0), (1, aI l1), (2, aI l2)] [aI t0, aR 48 0] Y (Rt (some (aI o.1)) o.2) nX := by
    intro l1 l2 t0 Y h
    unfold fn_233_J22 at h
    obtain ⟨v6, Y4, hv5, h⟩ := bd_some h
    refine w_cV1 k233 (sn_164 _ _ _ hv5) rfl (st := []) rfl ?_ (fun _ _ q => q.elim)
    refine w_if_eq k233 rfl (fun c => ?_) (fun c => ?_)
    · replace h := if_t c h
      refine w_sg k233 1 (pc' := 38) (ls' := [(0, aR 48 0), (1, aI l1), (2, aI l2)]) (st' := [aI (nI 0)]) (cs' := []) (fun _ => rfl) al0 ?_
      obtain rfl := Option.some.inj h
      exact w_ireturn k233 ⟨rfl, rfl⟩
    · replace h := if_f c h
      refine w_sg k233 3 (pc' := 31) (ls' := [(0, aR 48 0), (1, aI l1), (2, aI l2)]) (st' := [aI l2, aI l1, aR 48 0]) (cs' := []) (fun _ => rfl) al0 ?_
      obtain ⟨v9, Y7, hv8, h⟩ := bd_some h
      refine w_cV1 k233 (sn_191 _ _ _ _ hv8) rfl (st := []) rfl ?_ (fun _ _ q => q.elim)
      refine w_sg k233 1 (pc' := 38) (ls' := [(0, aR 48 0), (1, aI l1), (2, aI l2)]) (st' := [aI v9]) (cs' := []) (fun _ => rfl) al0 ?_
      obtain rfl := Option.some.inj h
      exact w_ireturn k233 ⟨rfl, rfl⟩
  have J21_0 : ∀ (l1 : Int32) (l2 : Int32) (Y : Sm), fn_233_J21 l1 l2 Y = some o → Wm 6 0 233 0 21 [(0, aR 48 0), (1, aI l1), (2, aI l2)] [aR 48 0] Y (Rt (some (aI o.1)) o.2) nX := by
    intro l1 l2 Y h
    unfold fn_233_J21 at h
    refine w_sg k233 1 (pc' := 22) (ls' := [(0, aR 48 0), (1, aI l1), (2, aI l2)]) (st' := [aI (nI 0), aR 48 0]) (cs' := []) (fun _ => rfl) al0 ?_
    refine w_ls [(0, aR 48 0), (1, aI l1), (2, aI l2)] (lq_c rfl (lq_c rfl (lq_c rfl lq_n))) ?_
    exact J22_0 _ _ _ _ h
  refine w_sg k233 3 (pc' := 3) (ls' := [(0, aR 48 0), (1, aI a1), (2, aI a2)]) (st' := [aI a1, aR 48 0, aR 48 0]) (cs' := []) (fun _ => rfl) al0 ?_
  obtain ⟨v3, Y1, hv2, h⟩ := bd_some h
  refine w_cV1 k233 (sn_208 _ _ _ hv2) rfl (st := [aR 48 0]) rfl ?_ (fun _ _ q => q.elim)
  refine w_if_eq k233 rfl (fun c => ?_) (fun c => ?_)
  · replace h := if_t c h
    refine w_ls [(0, aR 48 0), (1, aI a1), (2, aI a2)] (lq_c rfl (lq_c rfl (lq_c rfl lq_n))) ?_
    exact J21_0 _ _ _ h
  · replace h := if_f c h
    refine w_sg k233 2 (pc' := 11) (ls' := [(0, aR 48 0), (1, aI a1), (2, aI a2)]) (st' := [aI a2, aR 48 0, aR 48 0]) (cs' := []) (fun _ => rfl) al0 ?_
    obtain ⟨v12, Y10, hv11, h⟩ := bd_some h
    refine w_cV1 k233 (sn_209 _ _ _ hv11) rfl (st := [aR 48 0]) rfl ?_ (fun _ _ q => q.elim)
    refine w_if_eq k233 rfl (fun c => ?_) (fun c => ?_)
    · replace h := if_t c h
      refine w_ls [(0, aR 48 0), (1, aI a1), (2, aI a2)] (lq_c rfl (lq_c rfl (lq_c rfl lq_n))) ?_
      exact J21_0 _ _ _ h
    · replace h := if_f c h
      refine w_sg k233 2 (pc' := 22) (ls' := [(0, aR 48 0), (1, aI a1), (2, aI a2)]) (st' := [aI (nI 1), aR 48 0]) (cs' := []) (fun _ => rfl) al0 ?_
      refine w_ls [(0, aR 48 0), (1, aI a1), (2, aI a2)] (lq_c rfl (lq_c rfl (lq_c rfl lq_n))) ?_
      exact J22_0 _ _ _ _ h
set_option maxRecDepth 20000 in
set_option maxHeartbeats 4000000 in
/-- BallotBusModel.order -/
theorem sn_234 (a1 : Int32) {Y : Sm} (v : Int32) (Z : Sm) (h : fn_234 a1 Y = some (v, Z)) : Mt 6 0 234 [aR 48 0, aI a1] Y (Rt (some (aI v)) Z) nX := by
  refine Mt_of [(0, aR 48 0), (1, aI a1)] ?_
  generalize ho : (v, Z) = o at h
  have hv9 : v = o.1 := congrArg Prod.fst ho
  have hZ9 : Z = o.2 := congrArg Prod.snd ho
  clear ho
  subst hv9 hZ9
  unfold fn_234 at h
  refine w_sg k234 3 (pc' := 3) (ls' := [(0, aR 48 0), (1, aI a1)]) (st' := [aI a1, aR 48 0, aR 48 0]) (cs' := []) (fun _ => rfl) al0 ?_
  obtain ⟨v3, Y1, hv2, h⟩ := bd_some h
  refine w_cV1 k234 (sn_209 _ _ _ hv2) rfl (st := [aR 48 0]) rfl ?_ (fun _ _ q => q.elim)
  obtain ⟨v6, Y4, hv5, h⟩ := bd_some h
  refine w_cV1 k234 (sn_164 _ _ _ hv5) rfl (st := []) rfl ?_ (fun _ _ q => q.elim)
  refine w_if_eq k234 rfl (fun c => ?_) (fun c => ?_)
  · replace h := if_t c h
    refine w_sg k234 1 (pc' := 25) (ls' := [(0, aR 48 0), (1, aI a1)]) (st' := [aI (nI 0)]) (cs' := []) (fun _ => rfl) al0 ?_
    obtain rfl := Option.some.inj h
    exact w_ireturn k234 ⟨rfl, rfl⟩
  · replace h := if_f c h
    obtain ⟨hc7, h⟩ := ck_some h
    refine w_sg k234 7 (pc' := 25) (ls' := [(0, aR 48 0), (1, aI a1)]) (st' := [aI (gI Y4.1 52 0 (ix ((nI 10) + a1)))]) (cs' := [vp_in ((nI 10) + a1) 718]) (fun _ => rfl) (al1 (vin hc7)) ?_
    obtain rfl := Option.some.inj h
    exact w_ireturn k234 ⟨rfl, rfl⟩
set_option maxRecDepth 20000 in
set_option maxHeartbeats 4000000 in
/-- BallotBusModel.request -/
theorem sn_235 (a1 : Int32) (a2 : Int32) {Y : Sm} (v : Int32) (Z : Sm) (h : fn_235 a1 a2 Y = some (v, Z)) : Mt 6 0 235 [aR 48 0, aI a1, aI a2] Y (Rt (some (aI v)) Z) nX := by
  refine Mt_of [(0, aR 48 0), (1, aI a1), (2, aI a2)] ?_
  generalize ho : (v, Z) = o at h
  have hv9 : v = o.1 := congrArg Prod.fst ho
  have hZ9 : Z = o.2 := congrArg Prod.snd ho
  clear ho
  subst hv9 hZ9
  unfold fn_235 at h
  have J33_0 : ∀ (l2 : Int32) (l3 : Int32) (t0 : Int32) (Y : Sm), fn_235_J33 l2 l3 t0 Y = some o → Wm 6 0 235 0 33 [(0, aR 48 0), (2, aI l2), (3, aI l3)] [aI t0, aR 48 0] Y (Rt (some (aI o.1)) o.2) nX := by
    intro l2 l3 t0 Y h
    unfold fn_235_J33 at h
    refine w_sg k235 1 (pc' := 34) (ls' := [(0, aR 48 0), (2, aI l2), (3, aI l3)]) (st' := [aI (nI 2), aI t0, aR 48 0]) (cs' := []) (fun _ => rfl) al0 ?_
    obtain ⟨v12, Y10, hv11, h⟩ := bd_some h
    refine w_cV1 k235 (sn_165 _ _ _ _ hv11) rfl (st := []) rfl ?_ (fun _ _ q => q.elim)
    refine w_if_ne k235 rfl (fun c => ?_) (fun c => ?_)
    · replace h := if_f c h
      refine w_sg k235 5 (pc' := 47) (ls' := [(0, aR 48 0), (2, aI l2), (3, aI l3)]) (st' := [aI (l2 + (nI 1)), aI l3, aR 48 0]) (cs' := []) (fun _ => rfl) al0 ?_
      obtain ⟨v15, Y13, hv14, h⟩ := bd_some h
      refine w_cV1 k235 (sn_178 _ _ _ _ hv14) rfl (st := []) rfl ?_ (fun _ _ q => q.elim)
      obtain rfl := Option.some.inj h
      exact w_ireturn k235 ⟨rfl, rfl⟩
    · replace h := if_t c h
      refine w_sg k235 1 (pc' := 41) (ls' := [(0, aR 48 0), (2, aI l2), (3, aI l3)]) (st' := [aI (nI 0)]) (cs' := []) (fun _ => rfl) al0 ?_
      obtain rfl := Option.some.inj h
      exact w_ireturn k235 ⟨rfl, rfl⟩
  refine w_sg k235 2 (pc' := 2) (ls' := [(0, aR 48 0), (1, aI a1), (2, aI a2)]) (st' := [aI a1, aR 48 0]) (cs' := []) (fun _ => rfl) al0 ?_
  obtain ⟨v3, Y1, hv2, h⟩ := bd_some h
  refine w_cV1 k235 (sn_179 _ _ _ hv2) rfl (st := []) rfl ?_ (fun _ _ q => q.elim)
  refine w_sg k235 1 (pc' := 6) (ls' := [(0, aR 48 0), (1, aI a1), (2, aI a2), (3, aI v3)]) (st' := []) (cs' := []) (fun _ => rfl) al0 ?_
  refine w_sg k235 5 (pc' := 13) (ls' := [(0, aR 48 0), (1, aI a1), (2, aI a2), (3, aI v3)]) (st' := [aJ (((nI 4)).toInt64), aJ (Int64.ofNat 0), aJ ((a2).toInt64), aR 48 0]) (cs' := []) (fun _ => rfl) al0 ?_
  obtain ⟨v6, Y4, hv5, h⟩ := bd_some h
  refine w_cS1 k235 (sn_166 _ _ _ _ _ hv5) rfl (st := [aR 48 0]) rfl ?_ (fun _ _ q => q.elim)
  obtain ⟨v9, Y7, hv8, h⟩ := bd_some h
  refine w_cV1 k235 (sn_164 _ _ _ hv8) rfl (st := []) rfl ?_ (fun _ _ q => q.elim)
  refine w_if_eq k235 rfl (fun c => ?_) (fun c => ?_)
  · replace h := if_t c h
    refine w_sg k235 1 (pc' := 41) (ls' := [(0, aR 48 0), (1, aI a1), (2, aI a2), (3, aI v3)]) (st' := [aI (nI 0)]) (cs' := []) (fun _ => rfl) al0 ?_
    obtain rfl := Option.some.inj h
    exact w_ireturn k235 ⟨rfl, rfl⟩
  · replace h := if_f c h
    refine w_sg k235 3 (pc' := 25) (ls' := [(0, aR 48 0), (1, aI a1), (2, aI a2), (3, aI v3)]) (st' := [aI (-1 : Int32), aI v3, aR 48 0]) (cs' := []) (fun _ => rfl) al0 ?_
    refine w_icmp_eq k235 rfl (fun c => ?_) (fun c => ?_)
    · replace h := if_t c h
      refine w_sg k235 1 (pc' := 33) (ls' := [(0, aR 48 0), (1, aI a1), (2, aI a2), (3, aI v3)]) (st' := [aI (nI 0), aR 48 0]) (cs' := []) (fun _ => rfl) al0 ?_
      refine w_ls [(0, aR 48 0), (2, aI a2), (3, aI v3)] (lq_c rfl (lq_c rfl (lq_c rfl lq_n))) ?_
      exact J33_0 _ _ _ _ h
    · replace h := if_f c h
      refine w_sg k235 2 (pc' := 33) (ls' := [(0, aR 48 0), (1, aI a1), (2, aI a2), (3, aI v3)]) (st' := [aI (nI 1), aR 48 0]) (cs' := []) (fun _ => rfl) al0 ?_
      refine w_ls [(0, aR 48 0), (2, aI a2), (3, aI v3)] (lq_c rfl (lq_c rfl (lq_c rfl lq_n))) ?_
      exact J33_0 _ _ _ _ h
set_option maxRecDepth 20000 in
set_option maxHeartbeats 4000000 in
/-- BallotBusModel.line -/
theorem sn_236 (a1 : Int32) (a2 : Int32) {Y : Sm} (v : Int32) (Z : Sm) (h : fn_236 a1 a2 Y = some (v, Z)) : Mt 9 0 236 [aR 48 0, aI a1, aI a2] Y (Rt (some (aI v)) Z) nX := by
  refine Mt_of [(0, aR 48 0), (1, aI a1), (2, aI a2)] ?_
  generalize ho : (v, Z) = o at h
  have hv9 : v = o.1 := congrArg Prod.fst ho
  have hZ9 : Z = o.2 := congrArg Prod.snd ho
  clear ho
  subst hv9 hZ9
  unfold fn_236 at h
  refine w_sg k236 3 (pc' := 3) (ls' := [(0, aR 48 0), (1, aI a1), (2, aI a2)]) (st' := [aI a1, aR 48 0, aR 48 0]) (cs' := []) (fun _ => rfl) al0 ?_
  obtain ⟨v3, Y1, hv2, h⟩ := bd_some h
  refine w_cV1 k236 (sn_209 _ _ _ hv2) rfl (st := [aR 48 0]) rfl ?_ (fun _ _ q => q.elim)
  obtain ⟨v6, Y4, hv5, h⟩ := bd_some h
  refine w_cV1 k236 (sn_164 _ _ _ hv5) rfl (st := []) rfl ?_ (fun _ _ q => q.elim)
  refine w_if_eq k236 rfl (fun c => ?_) (fun c => ?_)
  · replace h := if_t c h
    refine w_sg k236 1 (pc' := 35) (ls' := [(0, aR 48 0), (1, aI a1), (2, aI a2)]) (st' := [aI (nI 0)]) (cs' := []) (fun _ => rfl) al0 ?_
    obtain rfl := Option.some.inj h
    exact w_ireturn k236 ⟨rfl, rfl⟩
  · replace h := if_f c h
    refine w_sg k236 6 (pc' := 18) (ls' := [(0, aR 48 0), (1, aI a1), (2, aI a2)]) (st' := [aI a1, aR 48 0, aJ (Int64.ofNat 0), aJ ((a2).toInt64), aR 48 0]) (cs' := []) (fun _ => rfl) al0 ?_
    obtain ⟨v9, Y7, hv8, h⟩ := bd_some h
    refine w_cV1 k236 (sn_229 _ _ _ hv8) rfl (st := [aJ (Int64.ofNat 0), aJ ((a2).toInt64), aR 48 0]) rfl ?_ (fun _ _ q => q.elim)
    refine w_sg k236 3 (pc' := 24) (ls' := [(0, aR 48 0), (1, aI a1), (2, aI a2)]) (st' := [aJ ((v9 - (nI 1)).toInt64), aJ (Int64.ofNat 0), aJ ((a2).toInt64), aR 48 0]) (cs' := []) (fun _ => rfl) al0 ?_
    obtain ⟨v12, Y10, hv11, h⟩ := bd_some h
    refine w_cS1 k236 (sn_166 _ _ _ _ _ hv11) rfl (st := [aR 48 0]) rfl ?_ (fun _ _ q => q.elim)
    refine w_sg k236 1 (pc' := 28) (ls' := [(0, aR 48 0), (1, aI a1), (2, aI a2)]) (st' := [aI (nI 2), aI v12, aR 48 0]) (cs' := []) (fun _ => rfl) al0 ?_
    obtain ⟨v15, Y13, hv14, h⟩ := bd_some h
    refine w_cV1 k236 (sn_165 _ _ _ _ hv14) rfl (st := []) rfl ?_ (fun _ _ q => q.elim)
    refine w_if_ne k236 rfl (fun c => ?_) (fun c => ?_)
    · replace h := if_f c h
      refine w_sg k236 4 (pc' := 40) (ls' := [(0, aR 48 0), (1, aI a1), (2, aI a2)]) (st' := [aI a2, aI a1, aR 48 0, aR 48 0]) (cs' := []) (fun _ => rfl) al0 ?_
      obtain ⟨v18, Y16, hv17, h⟩ := bd_some h
      refine w_cV1 k236 (sn_188 _ _ _ _ hv17) rfl (st := [aR 48 0]) rfl ?_ (fun _ _ q => q.elim)
      refine w_sg k236 1 (pc' := 44) (ls' := [(0, aR 48 0), (1, aI a1), (2, aI a2)]) (st' := [aI (nI 0), aI v18, aR 48 0]) (cs' := []) (fun _ => rfl) al0 ?_
      obtain ⟨v21, Y19, hv20, h⟩ := bd_some h
      refine w_cV1 k236 (sn_178 _ _ _ _ hv20) rfl (st := []) rfl ?_ (fun _ _ q => q.elim)
      obtain rfl := Option.some.inj h
      exact w_ireturn k236 ⟨rfl, rfl⟩
    · replace h := if_t c h
      refine w_sg k236 1 (pc' := 35) (ls' := [(0, aR 48 0), (1, aI a1), (2, aI a2)]) (st' := [aI (nI 0)]) (cs' := []) (fun _ => rfl) al0 ?_
      obtain rfl := Option.some.inj h
      exact w_ireturn k236 ⟨rfl, rfl⟩
set_option maxRecDepth 20000 in
set_option maxHeartbeats 4000000 in
/-- BallotBusModel.progress -/
theorem sn_237 {Y : Sm} (v : Int32) (Z : Sm) (h : fn_237 Y = some (v, Z)) : Mt 4 0 237 [aR 48 0] Y (Rt (some (aI v)) Z) nX := by
  refine Mt_of [(0, aR 48 0)] ?_
  generalize ho : (v, Z) = o at h
  have hv9 : v = o.1 := congrArg Prod.fst ho
  have hZ9 : Z = o.2 := congrArg Prod.snd ho
  clear ho
  subst hv9 hZ9
  unfold fn_237 at h
  refine w_sw k237 3 (Z := (sI Y 48 0 0 (nI 0))) (pc' := 5) (ls' := [(0, aR 48 0)]) (st' := []) (cs' := [allw 48 0]) (fun _ => rfl) rfl (al1 rfl) ?_
  replace h := wr_some h
  generalize (sI Y 48 0 0 (nI 0)) = Y1 at h ⊢
  refine w_sg k237 4 (pc' := 12) (ls' := [(0, aR 48 0)]) (st' := [aI (gI Y1.1 52 0 8)]) (cs' := [vp_in (nI 8) 718]) (fun _ => rfl) (al1 (vin rfl)) ?_
  obtain rfl := Option.some.inj h
  exact w_ireturn k237 ⟨rfl, rfl⟩
set_option maxRecDepth 20000 in
set_option maxHeartbeats 4000000 in
/-- BallotBusModel.answer -/
theorem sn_238 (a1 : Int32) (a2 : Int32) {Y : Sm} (v : Int32) (Z : Sm) (h : fn_238 a1 a2 Y = some (v, Z)) : Mt 5 0 238 [aR 48 0, aI a1, aI a2] Y (Rt (some (aI v)) Z) nX := by
  refine Mt_of [(0, aR 48 0), (1, aI a1), (2, aI a2)] ?_
  generalize ho : (v, Z) = o at h
  have hv9 : v = o.1 := congrArg Prod.fst ho
  have hZ9 : Z = o.2 := congrArg Prod.snd ho
  clear ho
  subst hv9 hZ9
  unfold fn_238 at h
  have J45_0 : ∀ (l1 : Int32) (l2 : Int32) (t0 : Int32) (Y : Sm), fn_238_J45 l1 l2 t0 Y = some o → Wm 5 0 238 0 45 [(0, aR 48 0), (1, aI l1), (2, aI l2)] [aI t0, aR 48 0] Y (Rt (some (aI o.1)) o.2) nX := by
    intro l1 l2 t0 Y h
    unfold fn_238_J45 at h
    refine w_sg k238 1 (pc' := 46) (ls' := [(0, aR 48 0), (1, aI l1), (2, aI l2)]) (st' := [aI (nI 2), aI t0, aR 48 0]) (cs' := []) (fun _ => rfl) al0 ?_
    obtain ⟨v12, Y10, hv11, h⟩ := bd_some h
    refine w_cV1 k238 (sn_165 _ _ _ _ hv11) rfl (st := []) rfl ?_ (fun _ _ q => q.elim)
    refine w_if_ne k238 rfl (fun c => ?_) (fun c => ?_)
    · replace h := if_f c h
      refine w_sg k238 8 (pc' := 70) (ls' := [(0, aR 48 0), (1, aI l1), (2, aI l2)]) (st' := [aI (gI Y10.1 52 0 7), aI (nI 6), aI (nI 358), aR 52 0]) (cs' := [vp_in (nI 7) 718]) (fun _ => rfl) (al1 (vin rfl)) ?_
      refine w_sg k238 8 (pc' := 79) (ls' := [(0, aR 48 0), (1, aI l1), (2, aI l2)]) (st' := [aI ((nI 358) + ((nI 6) * ((((gI Y10.1 52 0 7) - (nI 1)) - l1) - (((gI Y10.1 52 0 7) - (nI 1)) - l1) / (nI 60) * (nI 60)))), aR 52 0]) (cs' := [¬ (nI 60) = 0]) (fun _ => rfl) (al1 (by decide)) ?_
      obtain ⟨hc13, h⟩ := ck_some h
      refine w_sg k238 3 (pc' := 82) (ls' := [(0, aR 48 0), (1, aI l1), (2, aI l2)]) (st' := [aI (gI Y10.1 52 0 (ix (((nI 358) + ((nI 6) * ((((gI Y10.1 52 0 7) - (nI 1)) - l1) - (((gI Y10.1 52 0 7) - (nI 1)) - l1) / (nI 60) * (nI 60)))) + l2)))]) (cs' := [vp_in (((nI 358) + ((nI 6) * ((((gI Y10.1 52 0 7) - (nI 1)) - l1) - (((gI Y10.1 52 0 7) - (nI 1)) - l1) / (nI 60) * (nI 60)))) + l2) 718]) (fun _ => rfl) (al1 (vin hc13)) ?_
      obtain rfl := Option.some.inj h
      exact w_ireturn k238 ⟨rfl, rfl⟩
    · replace h := if_t c h
      refine w_sg k238 1 (pc' := 53) (ls' := [(0, aR 48 0), (1, aI l1), (2, aI l2)]) (st' := [aI (nI 0)]) (cs' := []) (fun _ => rfl) al0 ?_
      obtain rfl := Option.some.inj h
      exact w_ireturn k238 ⟨rfl, rfl⟩
  have J44_0 : ∀ (l1 : Int32) (l2 : Int32) (Y : Sm), fn_238_J44 l1 l2 Y = some o → Wm 5 0 238 0 44 [(0, aR 48 0), (1, aI l1), (2, aI l2)] [aR 48 0] Y (Rt (some (aI o.1)) o.2) nX := by
    intro l1 l2 Y h
    unfold fn_238_J44 at h
    refine w_sg k238 1 (pc' := 45) (ls' := [(0, aR 48 0), (1, aI l1), (2, aI l2)]) (st' := [aI (nI 0), aR 48 0]) (cs' := []) (fun _ => rfl) al0 ?_
    refine w_ls [(0, aR 48 0), (1, aI l1), (2, aI l2)] (lq_c rfl (lq_c rfl (lq_c rfl lq_n))) ?_
    exact J45_0 _ _ _ _ h
  refine w_sg k238 5 (pc' := 7) (ls' := [(0, aR 48 0), (1, aI a1), (2, aI a2)]) (st' := [aJ (((nI 5)).toInt64), aJ (Int64.ofNat 0), aJ ((a2).toInt64), aR 48 0]) (cs' := []) (fun _ => rfl) al0 ?_
  obtain ⟨v3, Y1, hv2, h⟩ := bd_some h
  refine w_cS1 k238 (sn_166 _ _ _ _ _ hv2) rfl (st := [aR 48 0]) rfl ?_ (fun _ _ q => q.elim)
  obtain ⟨v6, Y4, hv5, h⟩ := bd_some h
  refine w_cV1 k238 (sn_164 _ _ _ hv5) rfl (st := []) rfl ?_ (fun _ _ q => q.elim)
  refine w_if_eq k238 rfl (fun c => ?_) (fun c => ?_)
  · replace h := if_t c h
    refine w_sg k238 1 (pc' := 53) (ls' := [(0, aR 48 0), (1, aI a1), (2, aI a2)]) (st' := [aI (nI 0)]) (cs' := []) (fun _ => rfl) al0 ?_
    obtain rfl := Option.some.inj h
    exact w_ireturn k238 ⟨rfl, rfl⟩
  · replace h := if_f c h
    refine w_sg k238 5 (pc' := 23) (ls' := [(0, aR 48 0), (1, aI a1), (2, aI a2)]) (st' := [aJ (((nI 59)).toInt64), aJ (Int64.ofNat 0), aJ ((a1).toInt64), aR 48 0]) (cs' := []) (fun _ => rfl) al0 ?_
    obtain ⟨v9, Y7, hv8, h⟩ := bd_some h
    refine w_cS1 k238 (sn_166 _ _ _ _ _ hv8) rfl (st := [aR 48 0]) rfl ?_ (fun _ _ q => q.elim)
    refine w_if_eq k238 rfl (fun c => ?_) (fun c => ?_)
    · replace h := if_t c h
      refine w_ls [(0, aR 48 0), (1, aI a1), (2, aI a2)] (lq_c rfl (lq_c rfl (lq_c rfl lq_n))) ?_
      exact J44_0 _ _ _ h
    · replace h := if_f c h
      refine w_sg k238 5 (pc' := 37) (ls' := [(0, aR 48 0), (1, aI a1), (2, aI a2)]) (st' := [aI (gI Y7.1 52 0 7), aI a1, aR 48 0]) (cs' := [vp_in (nI 7) 718]) (fun _ => rfl) (al1 (vin rfl)) ?_
      refine w_icmp_ge k238 rfl (fun c => ?_) (fun c => ?_)
      · replace h := if_t c h
        refine w_ls [(0, aR 48 0), (1, aI a1), (2, aI a2)] (lq_c rfl (lq_c rfl (lq_c rfl lq_n))) ?_
        exact J44_0 _ _ _ h
      · replace h := if_f c h
        refine w_sg k238 2 (pc' := 45) (ls' := [(0, aR 48 0), (1, aI a1), (2, aI a2)]) (st' := [aI (nI 1), aR 48 0]) (cs' := []) (fun _ => rfl) al0 ?_
        refine w_ls [(0, aR 48 0), (1, aI a1), (2, aI a2)] (lq_c rfl (lq_c rfl (lq_c rfl lq_n))) ?_
        exact J45_0 _ _ _ _ h
set_option maxRecDepth 20000 in
set_option maxHeartbeats 4000000 in
/-- BallotBusModel.points -/
theorem sn_239 (a1 : Int32) {Y : Sm} (v : Int32) (Z : Sm) (h : fn_239 a1 Y = some (v, Z)) : Mt 7 0 239 [aR 48 0, aI a1] Y (Rt (some (aI v)) Z) nX := by
  refine Mt_of [(0, aR 48 0), (1, aI a1)] ?_
  generalize ho : (v, Z) = o at h
  have hv9 : v = o.1 := congrArg Prod.fst ho
  have hZ9 : Z = o.2 := congrArg Prod.snd ho
  clear ho
  subst hv9 hZ9
  unfold fn_239 at h
  refine w_sg k239 3 (pc' := 3) (ls' := [(0, aR 48 0), (1, aI a1)]) (st' := [aI a1, aR 48 0, aR 48 0]) (cs' := []) (fun _ => rfl) al0 ?_
  obtain ⟨v3, Y1, hv2, h⟩ := bd_some h
  refine w_cV1 k239 (sn_209 _ _ _ hv2) rfl (st := [aR 48 0]) rfl ?_ (fun _ _ q => q.elim)
  obtain ⟨v6, Y4, hv5, h⟩ := bd_some h
  refine w_cV1 k239 (sn_164 _ _ _ hv5) rfl (st := []) rfl ?_ (fun _ _ q => q.elim)
  refine w_if_eq k239 rfl (fun c => ?_) (fun c => ?_)
  · replace h := if_t c h
    refine w_sg k239 1 (pc' := 21) (ls' := [(0, aR 48 0), (1, aI a1)]) (st' := [aI (nI 0)]) (cs' := []) (fun _ => rfl) al0 ?_
    obtain rfl := Option.some.inj h
    exact w_ireturn k239 ⟨rfl, rfl⟩
  · replace h := if_f c h
    refine w_sg k239 2 (pc' := 14) (ls' := [(0, aR 48 0), (1, aI a1)]) (st' := [aI a1, aR 48 0]) (cs' := []) (fun _ => rfl) al0 ?_
    obtain ⟨v9, Y7, hv8, h⟩ := bd_some h
    refine w_cV1 k239 (sn_193 _ _ _ hv8) rfl (st := []) rfl ?_ (fun _ _ q => q.elim)
    refine w_sg k239 1 (pc' := 21) (ls' := [(0, aR 48 0), (1, aI a1)]) (st' := [aI v9]) (cs' := []) (fun _ => rfl) al0 ?_
    obtain rfl := Option.some.inj h
    exact w_ireturn k239 ⟨rfl, rfl⟩
set_option maxRecDepth 20000 in
set_option maxHeartbeats 4000000 in
/-- BallotBusModel.firsts -/
theorem sn_240 (a1 : Int32) (a2 : Int32) {Y : Sm} (v : Int32) (Z : Sm) (h : fn_240 a1 a2 Y = some (v, Z)) : Mt 6 0 240 [aR 48 0, aI a1, aI a2] Y (Rt (some (aI v)) Z) nX := by
  refine Mt_of [(0, aR 48 0), (1, aI a1), (2, aI a2)] ?_
  generalize ho : (v, Z) = o at h
  have hv9 : v = o.1 := congrArg Prod.fst ho
  have hZ9 : Z = o.2 := congrArg Prod.snd ho
  clear ho
  subst hv9 hZ9
  unfold fn_240 at h
  have J22_0 : ∀ (l1 : Int32) (l2 : Int32) (t0 : Int32) (Y : Sm), fn_240_J22 l1 l2 t0 Y = some o → Wm 6 0 240 0 22 [(0, aR 48 0), (1, aI l1), (2, aI l2)] [aI t0, aR 48 0] Y (Rt (some (aI o.1)) o.2) nX := by
    intro l1 l2 t0 Y h
    unfold fn_240_J22 at h
    obtain ⟨v6, Y4, hv5, h⟩ := bd_some h
    refine w_cV1 k240 (sn_164 _ _ _ hv5) rfl (st := []) rfl ?_ (fun _ _ q => q.elim)
    refine w_if_eq k240 rfl (fun c => ?_) (fun c => ?_)
    · replace h := if_t c h
      refine w_sg k240 1 (pc' := 38) (ls' := [(0, aR 48 0), (1, aI l1), (2, aI l2)]) (st' := [aI (nI 0)]) (cs' := []) (fun _ => rfl) al0 ?_
      obtain rfl := Option.some.inj h
      exact w_ireturn k240 ⟨rfl, rfl⟩
    · replace h := if_f c h
      refine w_sg k240 3 (pc' := 31) (ls' := [(0, aR 48 0), (1, aI l1), (2, aI l2)]) (st' := [aI l2, aI l1, aR 48 0]) (cs' := []) (fun _ => rfl) al0 ?_
      obtain ⟨v9, Y7, hv8, h⟩ := bd_some h
      refine w_cV1 k240 (sn_194 _ _ _ _ hv8) rfl (st := []) rfl ?_ (fun _ _ q => q.elim)
      refine w_sg k240 1 (pc' := 38) (ls' := [(0, aR 48 0), (1, aI l1), (2, aI l2)]) (st' := [aI v9]) (cs' := []) (fun _ => rfl) al0 ?_
      obtain rfl := Option.some.inj h
      exact w_ireturn k240 ⟨rfl, rfl⟩
  have J21_0 : ∀ (l1 : Int32) (l2 : Int32) (Y : Sm), fn_240_J21 l1 l2 Y = some o → Wm 6 0 240 0 21 [(0, aR 48 0), (1, aI l1), (2, aI l2)] [aR 48 0] Y (Rt (some (aI o.1)) o.2) nX := by
    intro l1 l2 Y h
    unfold fn_240_J21 at h
    refine w_sg k240 1 (pc' := 22) (ls' := [(0, aR 48 0), (1, aI l1), (2, aI l2)]) (st' := [aI (nI 0), aR 48 0]) (cs' := []) (fun _ => rfl) al0 ?_
    refine w_ls [(0, aR 48 0), (1, aI l1), (2, aI l2)] (lq_c rfl (lq_c rfl (lq_c rfl lq_n))) ?_
    exact J22_0 _ _ _ _ h
  refine w_sg k240 3 (pc' := 3) (ls' := [(0, aR 48 0), (1, aI a1), (2, aI a2)]) (st' := [aI a1, aR 48 0, aR 48 0]) (cs' := []) (fun _ => rfl) al0 ?_
  obtain ⟨v3, Y1, hv2, h⟩ := bd_some h
  refine w_cV1 k240 (sn_209 _ _ _ hv2) rfl (st := [aR 48 0]) rfl ?_ (fun _ _ q => q.elim)
  refine w_if_eq k240 rfl (fun c => ?_) (fun c => ?_)
  · replace h := if_t c h
    refine w_ls [(0, aR 48 0), (1, aI a1), (2, aI a2)] (lq_c rfl (lq_c rfl (lq_c rfl lq_n))) ?_
    exact J21_0 _ _ _ h
  · replace h := if_f c h
    refine w_sg k240 2 (pc' := 11) (ls' := [(0, aR 48 0), (1, aI a1), (2, aI a2)]) (st' := [aI a2, aR 48 0, aR 48 0]) (cs' := []) (fun _ => rfl) al0 ?_
    obtain ⟨v12, Y10, hv11, h⟩ := bd_some h
    refine w_cV1 k240 (sn_209 _ _ _ hv11) rfl (st := [aR 48 0]) rfl ?_ (fun _ _ q => q.elim)
    refine w_if_eq k240 rfl (fun c => ?_) (fun c => ?_)
    · replace h := if_t c h
      refine w_ls [(0, aR 48 0), (1, aI a1), (2, aI a2)] (lq_c rfl (lq_c rfl (lq_c rfl lq_n))) ?_
      exact J21_0 _ _ _ h
    · replace h := if_f c h
      refine w_sg k240 2 (pc' := 22) (ls' := [(0, aR 48 0), (1, aI a1), (2, aI a2)]) (st' := [aI (nI 1), aR 48 0]) (cs' := []) (fun _ => rfl) al0 ?_
      refine w_ls [(0, aR 48 0), (1, aI a1), (2, aI a2)] (lq_c rfl (lq_c rfl (lq_c rfl lq_n))) ?_
      exact J22_0 _ _ _ _ h
set_option maxRecDepth 20000 in
set_option maxHeartbeats 4000000 in
/-- BallotBusModel.beats -/
theorem sn_241 (a1 : Int32) (a2 : Int32) {Y : Sm} (v : Int32) (Z : Sm) (h : fn_241 a1 a2 Y = some (v, Z)) : Mt 8 0 241 [aR 48 0, aI a1, aI a2] Y (Rt (some (aI v)) Z) nX := by
  refine Mt_of [(0, aR 48 0), (1, aI a1), (2, aI a2)] ?_
  generalize ho : (v, Z) = o at h
  have hv9 : v = o.1 := congrArg Prod.fst ho
  have hZ9 : Z = o.2 := congrArg Prod.snd ho
  clear ho
  subst hv9 hZ9
  unfold fn_241 at h
  have J22_0 : ∀ (l1 : Int32) (l2 : Int32) (t0 : Int32) (Y : Sm), fn_241_J22 l1 l2 t0 Y = some o → Wm 8 0 241 0 22 [(0, aR 48 0), (1, aI l1), (2, aI l2)] [aI t0, aR 48 0] Y (Rt (some (aI o.1)) o.2) nX := by
    intro l1 l2 t0 Y h
    unfold fn_241_J22 at h
    obtain ⟨v6, Y4, hv5, h⟩ := bd_some h
    refine w_cV1 k241 (sn_164 _ _ _ hv5) rfl (st := []) rfl ?_ (fun _ _ q => q.elim)
    refine w_if_eq k241 rfl (fun c => ?_) (fun c => ?_)
    · replace h := if_t c h
      refine w_sg k241 1 (pc' := 42) (ls' := [(0, aR 48 0), (1, aI l1), (2, aI l2)]) (st' := [aI (nI 0)]) (cs' := []) (fun _ => rfl) al0 ?_
      obtain rfl := Option.some.inj h
      exact w_zreturn k241 (Or.inl rfl) ⟨rfl, rfl⟩
    · replace h := if_f c h
      refine w_sg k241 3 (pc' := 31) (ls' := [(0, aR 48 0), (1, aI l1), (2, aI l2)]) (st' := [aI l2, aI l1, aR 48 0]) (cs' := []) (fun _ => rfl) al0 ?_
      obtain ⟨v9, Y7, hv8, h⟩ := bd_some h
      refine w_cV1 k241 (sn_196 _ _ _ _ hv8) rfl (st := []) rfl ?_ (fun _ _ q => q.elim)
      refine w_if_eq k241 rfl (fun c => ?_) (fun c => ?_)
      · replace h := if_t c h
        refine w_sg k241 1 (pc' := 42) (ls' := [(0, aR 48 0), (1, aI l1), (2, aI l2)]) (st' := [aI (nI 0)]) (cs' := []) (fun _ => rfl) al0 ?_
        obtain rfl := Option.some.inj h
        exact w_zreturn k241 (Or.inl rfl) ⟨rfl, rfl⟩
      · replace h := if_f c h
        refine w_sg k241 2 (pc' := 42) (ls' := [(0, aR 48 0), (1, aI l1), (2, aI l2)]) (st' := [aI (nI 1)]) (cs' := []) (fun _ => rfl) al0 ?_
        obtain rfl := Option.some.inj h
        exact w_zreturn k241 (Or.inr rfl) ⟨rfl, rfl⟩
  have J21_0 : ∀ (l1 : Int32) (l2 : Int32) (Y : Sm), fn_241_J21 l1 l2 Y = some o → Wm 8 0 241 0 21 [(0, aR 48 0), (1, aI l1), (2, aI l2)] [aR 48 0] Y (Rt (some (aI o.1)) o.2) nX := by
    intro l1 l2 Y h
    unfold fn_241_J21 at h
    refine w_sg k241 1 (pc' := 22) (ls' := [(0, aR 48 0), (1, aI l1), (2, aI l2)]) (st' := [aI (nI 0), aR 48 0]) (cs' := []) (fun _ => rfl) al0 ?_
    refine w_ls [(0, aR 48 0), (1, aI l1), (2, aI l2)] (lq_c rfl (lq_c rfl (lq_c rfl lq_n))) ?_
    exact J22_0 _ _ _ _ h
  refine w_sg k241 3 (pc' := 3) (ls' := [(0, aR 48 0), (1, aI a1), (2, aI a2)]) (st' := [aI a1, aR 48 0, aR 48 0]) (cs' := []) (fun _ => rfl) al0 ?_
  obtain ⟨v3, Y1, hv2, h⟩ := bd_some h
  refine w_cV1 k241 (sn_209 _ _ _ hv2) rfl (st := [aR 48 0]) rfl ?_ (fun _ _ q => q.elim)
  refine w_if_eq k241 rfl (fun c => ?_) (fun c => ?_)
  · replace h := if_t c h
    refine w_ls [(0, aR 48 0), (1, aI a1), (2, aI a2)] (lq_c rfl (lq_c rfl (lq_c rfl lq_n))) ?_
    exact J21_0 _ _ _ h
  · replace h := if_f c h
    refine w_sg k241 2 (pc' := 11) (ls' := [(0, aR 48 0), (1, aI a1), (2, aI a2)]) (st' := [aI a2, aR 48 0, aR 48 0]) (cs' := []) (fun _ => rfl) al0 ?_
    obtain ⟨v12, Y10, hv11, h⟩ := bd_some h
    refine w_cV1 k241 (sn_209 _ _ _ hv11) rfl (st := [aR 48 0]) rfl ?_ (fun _ _ q => q.elim)
    refine w_if_eq k241 rfl (fun c => ?_) (fun c => ?_)
    · replace h := if_t c h
      refine w_ls [(0, aR 48 0), (1, aI a1), (2, aI a2)] (lq_c rfl (lq_c rfl (lq_c rfl lq_n))) ?_
      exact J21_0 _ _ _ h
    · replace h := if_f c h
      refine w_sg k241 2 (pc' := 22) (ls' := [(0, aR 48 0), (1, aI a1), (2, aI a2)]) (st' := [aI (nI 1), aR 48 0]) (cs' := []) (fun _ => rfl) al0 ?_
      refine w_ls [(0, aR 48 0), (1, aI a1), (2, aI a2)] (lq_c rfl (lq_c rfl (lq_c rfl lq_n))) ?_
      exact J22_0 _ _ _ _ h
set_option maxRecDepth 20000 in
set_option maxHeartbeats 4000000 in
/-- BallotBusModel.wins -/
theorem sn_242 (a1 : Int32) {Y : Sm} (v : Int32) (Z : Sm) (h : fn_242 a1 Y = some (v, Z)) : Mt 9 0 242 [aR 48 0, aI a1] Y (Rt (some (aI v)) Z) nX := by
  refine Mt_of [(0, aR 48 0), (1, aI a1)] ?_
  generalize ho : (v, Z) = o at h
  have hv9 : v = o.1 := congrArg Prod.fst ho
  have hZ9 : Z = o.2 := congrArg Prod.snd ho
  clear ho
  subst hv9 hZ9
  unfold fn_242 at h
  refine w_sg k242 3 (pc' := 3) (ls' := [(0, aR 48 0), (1, aI a1)]) (st' := [aI a1, aR 48 0, aR 48 0]) (cs' := []) (fun _ => rfl) al0 ?_
  obtain ⟨v3, Y1, hv2, h⟩ := bd_some h
  refine w_cV1 k242 (sn_209 _ _ _ hv2) rfl (st := [aR 48 0]) rfl ?_ (fun _ _ q => q.elim)
  obtain ⟨v6, Y4, hv5, h⟩ := bd_some h
  refine w_cV1 k242 (sn_164 _ _ _ hv5) rfl (st := []) rfl ?_ (fun _ _ q => q.elim)
  refine w_if_eq k242 rfl (fun c => ?_) (fun c => ?_)
  · replace h := if_t c h
    refine w_sg k242 1 (pc' := 21) (ls' := [(0, aR 48 0), (1, aI a1)]) (st' := [aI (nI 0)]) (cs' := []) (fun _ => rfl) al0 ?_
    obtain rfl := Option.some.inj h
    exact w_ireturn k242 ⟨rfl, rfl⟩
  · replace h := if_f c h
    refine w_sg k242 2 (pc' := 14) (ls' := [(0, aR 48 0), (1, aI a1)]) (st' := [aI a1, aR 48 0]) (cs' := []) (fun _ => rfl) al0 ?_
    obtain ⟨v9, Y7, hv8, h⟩ := bd_some h
    refine w_cV1 k242 (sn_197 _ _ _ hv8) rfl (st := []) rfl ?_ (fun _ _ q => q.elim)
    refine w_sg k242 1 (pc' := 21) (ls' := [(0, aR 48 0), (1, aI a1)]) (st' := [aI v9]) (cs' := []) (fun _ => rfl) al0 ?_
    obtain rfl := Option.some.inj h
    exact w_ireturn k242 ⟨rfl, rfl⟩
set_option maxRecDepth 20000 in
set_option maxHeartbeats 4000000 in
/-- BallotBusModel.champion -/
theorem sn_243 {Y : Sm} (v : Int32) (Z : Sm) (h : fn_243 Y = some (v, Z)) : Mt 9 0 243 [aR 48 0] Y (Rt (some (aI v)) Z) nX := by
  refine Mt_of [(0, aR 48 0)] ?_
  generalize ho : (v, Z) = o at h
  have hv9 : v = o.1 := congrArg Prod.fst ho
  have hZ9 : Z = o.2 := congrArg Prod.snd ho
  clear ho
  subst hv9 hZ9
  unfold fn_243 at h
  have L16_0 : ∀ (n : Nat) (l1 : Int32) (Y : Sm), lp (fun s => fn_243_L16 s.1 s.2) n (l1, Y) = some o → Wm 9 0 243 0 16 [(0, aR 48 0), (1, aI l1)] [] Y (Rt (some (aI o.1)) o.2) nX := by
    intro n
    induction n with
    | zero => intro l1 Y h; cases h
    | succ n ih7 =>
      intro l1 Y h
      obtain ⟨q5, h, hn6⟩ := lp_succ h
      replace h : fn_243_L16 l1 Y = some q5 := h
      unfold fn_243_L16 at h
      refine w_sg k243 3 (pc' := 21) (ls' := [(0, aR 48 0), (1, aI l1)]) (st' := [aI (gI Y.1 48 0 1), aI l1]) (cs' := []) (fun _ => rfl) al0 ?_
      refine w_icmp_ge k243 rfl (fun c => ?_) (fun c => ?_)
      · replace h := if_t c h
        refine w_sg k243 1 (pc' := 47) (ls' := [(0, aR 48 0), (1, aI l1)]) (st' := [aI (-1 : Int32)]) (cs' := []) (fun _ => rfl) al0 ?_
        obtain rfl := Option.some.inj h
        obtain rfl := lpn_r hn6
        exact w_ireturn k243 ⟨rfl, rfl⟩
      · replace h := if_f c h
        refine w_sg k243 2 (pc' := 26) (ls' := [(0, aR 48 0), (1, aI l1)]) (st' := [aI l1, aR 48 0]) (cs' := []) (fun _ => rfl) al0 ?_
        obtain ⟨v10, Y8, hv9, h⟩ := bd_some h
        refine w_cV1 k243 (sn_197 _ _ _ hv9) rfl (st := []) rfl ?_ (fun _ _ q => q.elim)
        refine w_sg k243 4 (pc' := 35) (ls' := [(0, aR 48 0), (1, aI l1)]) (st' := [aI ((gI Y8.1 48 0 1) - (nI 1)), aI v10]) (cs' := []) (fun _ => rfl) al0 ?_
        refine w_icmp_ne k243 rfl (fun c => ?_) (fun c => ?_)
        · replace h := if_f c h
          refine w_sg k243 1 (pc' := 43) (ls' := [(0, aR 48 0), (1, aI (l1 + (nI 1)))]) (st' := []) (cs' := []) (fun _ => rfl) al0 ?_
          refine w_sg k243 1 (pc' := 16) (ls' := [(0, aR 48 0), (1, aI (l1 + (nI 1)))]) (st' := []) (cs' := []) (fun _ => rfl) al0 ?_
          refine w_ls [(0, aR 48 0), (1, aI (l1 + (nI 1)))] (lq_c rfl (lq_c rfl lq_n)) ?_
          obtain rfl := Option.some.inj h
          exact ih7 _ _ (lpn_l hn6)
        · replace h := if_t c h
          refine w_sg k243 1 (pc' := 39) (ls' := [(0, aR 48 0), (1, aI l1)]) (st' := [aI l1]) (cs' := []) (fun _ => rfl) al0 ?_
          obtain rfl := Option.some.inj h
          obtain rfl := lpn_r hn6
          exact w_ireturn k243 ⟨rfl, rfl⟩
  refine w_sw k243 3 (Z := (sI Y 48 0 0 (nI 0))) (pc' := 5) (ls' := [(0, aR 48 0)]) (st' := []) (cs' := [allw 48 0]) (fun _ => rfl) rfl (al1 rfl) ?_
  replace h := wr_some h
  generalize (sI Y 48 0 0 (nI 0)) = Y1 at h ⊢
  refine w_sg k243 1 (pc' := 6) (ls' := [(0, aR 48 0)]) (st' := [aR 48 0]) (cs' := []) (fun _ => rfl) al0 ?_
  obtain ⟨v4, Y2, hv3, h⟩ := bd_some h
  refine w_cV1 k243 (sn_190  _ _ hv3) rfl (st := []) rfl ?_ (fun _ _ q => q.elim)
  refine w_if_ne k243 rfl (fun c => ?_) (fun c => ?_)
  · replace h := if_f c h
    refine w_sg k243 2 (pc' := 16) (ls' := [(0, aR 48 0), (1, aI (nI 0))]) (st' := []) (cs' := []) (fun _ => rfl) al0 ?_
    refine w_ls [(0, aR 48 0), (1, aI (nI 0))] (lq_c rfl (lq_c rfl lq_n)) ?_
    exact L16_0 _ _ _ h
  · replace h := if_t c h
    refine w_sg k243 1 (pc' := 13) (ls' := [(0, aR 48 0)]) (st' := [aI (-1 : Int32)]) (cs' := []) (fun _ => rfl) al0 ?_
    obtain rfl := Option.some.inj h
    exact w_ireturn k243 ⟨rfl, rfl⟩
set_option maxRecDepth 20000 in
set_option maxHeartbeats 4000000 in
/-- BallotBusModel.voted -/
theorem sn_244 (a1 : Int32) (a2 : Int32) {Y : Sm} (v : Int32) (Z : Sm) (h : fn_244 a1 a2 Y = some (v, Z)) : Mt 11 0 244 [aR 48 0, aI a1, aI a2] Y (Rt (some (aI v)) Z) nX := by
  refine Mt_of [(0, aR 48 0), (1, aI a1), (2, aI a2)] ?_
  generalize ho : (v, Z) = o at h
  have hv9 : v = o.1 := congrArg Prod.fst ho
  have hZ9 : Z = o.2 := congrArg Prod.snd ho
  clear ho
  subst hv9 hZ9
  unfold fn_244 at h
  refine w_sg k244 3 (pc' := 3) (ls' := [(0, aR 48 0), (1, aI a1), (2, aI a2)]) (st' := [aI a2, aR 48 0, aR 48 0]) (cs' := []) (fun _ => rfl) al0 ?_
  obtain ⟨v3, Y1, hv2, h⟩ := bd_some h
  refine w_cV1 k244 (sn_209 _ _ _ hv2) rfl (st := [aR 48 0]) rfl ?_ (fun _ _ q => q.elim)
  obtain ⟨v6, Y4, hv5, h⟩ := bd_some h
  refine w_cV1 k244 (sn_164 _ _ _ hv5) rfl (st := []) rfl ?_ (fun _ _ q => q.elim)
  refine w_if_eq k244 rfl (fun c => ?_) (fun c => ?_)
  · replace h := if_t c h
    refine w_sg k244 1 (pc' := 25) (ls' := [(0, aR 48 0), (1, aI a1), (2, aI a2)]) (st' := [aI (nI 0)]) (cs' := []) (fun _ => rfl) al0 ?_
    obtain rfl := Option.some.inj h
    exact w_ireturn k244 ⟨rfl, rfl⟩
  · replace h := if_f c h
    refine w_sg k244 2 (pc' := 14) (ls' := [(0, aR 48 0), (1, aI a1), (2, aI a2)]) (st' := [aI a1, aR 48 0]) (cs' := []) (fun _ => rfl) al0 ?_
    obtain ⟨v9, Y7, hv8, h⟩ := bd_some h
    refine w_cS1 k244 (sn_222 _ _ _ hv8) rfl (st := [aR 48 0]) rfl ?_ (fun _ _ q => q.elim)
    refine w_sg k244 1 (pc' := 18) (ls' := [(0, aR 48 0), (1, aI a1), (2, aI a2)]) (st' := [aI (nI 2), aI v9, aR 48 0]) (cs' := []) (fun _ => rfl) al0 ?_
    obtain ⟨v12, Y10, hv11, h⟩ := bd_some h
    refine w_cV1 k244 (sn_165 _ _ _ _ hv11) rfl (st := []) rfl ?_ (fun _ _ q => q.elim)
    refine w_if_ne k244 rfl (fun c => ?_) (fun c => ?_)
    · replace h := if_f c h
      refine w_sg k244 2 (pc' := 28) (ls' := [(0, aR 48 0), (1, aI a1), (2, aI a2)]) (st' := [aI a1, aR 48 0]) (cs' := []) (fun _ => rfl) al0 ?_
      obtain ⟨_, Y13, hv14, h⟩ := bd_some h
      refine w_cV0 k244 (sn_199 _ _ _ hv14) rfl (st := []) rfl ?_ (fun _ _ q => q.elim)
      obtain ⟨hc15, h⟩ := ck_some h
      refine w_sg k244 4 (pc' := 37) (ls' := [(0, aR 48 0), (1, aI a1), (2, aI a2)]) (st' := [aI (gI Y13.1 58 0 (ix a2))]) (cs' := [vp_in a2 5]) (fun _ => rfl) (al1 (vin hc15)) ?_
      obtain rfl := Option.some.inj h
      exact w_ireturn k244 ⟨rfl, rfl⟩
    · replace h := if_t c h
      refine w_sg k244 1 (pc' := 25) (ls' := [(0, aR 48 0), (1, aI a1), (2, aI a2)]) (st' := [aI (nI 0)]) (cs' := []) (fun _ => rfl) al0 ?_
      obtain rfl := Option.some.inj h
      exact w_ireturn k244 ⟨rfl, rfl⟩
set_option maxRecDepth 20000 in
set_option maxHeartbeats 4000000 in
/-- BallotBusModel.votes -/
theorem sn_245 {Y : Sm} (v : Int32) (Z : Sm) (h : fn_245 Y = some (v, Z)) : Mt 5 0 245 [aR 48 0] Y (Rt (some (aI v)) Z) nX := by
  refine Mt_of [(0, aR 48 0)] ?_
  generalize ho : (v, Z) = o at h
  have hv9 : v = o.1 := congrArg Prod.fst ho
  have hZ9 : Z = o.2 := congrArg Prod.snd ho
  clear ho
  subst hv9 hZ9
  unfold fn_245 at h
  have L9_0 : ∀ (n : Nat) (l1 : Int32) (l2 : Int32) (Y : Sm), lp (fun s => fn_245_L9 s.1 s.2.1 s.2.2) n (l1, l2, Y) = some o → Wm 5 0 245 0 9 [(0, aR 48 0), (1, aI l1), (2, aI l2)] [] Y (Rt (some (aI o.1)) o.2) nX := by
    intro n
    induction n with
    | zero => intro l1 l2 Y h; cases h
    | succ n ih4 =>
      intro l1 l2 Y h
      obtain ⟨q2, h, hn3⟩ := lp_succ h
      replace h : fn_245_L9 l1 l2 Y = some q2 := h
      unfold fn_245_L9 at h
      refine w_sg k245 3 (pc' := 14) (ls' := [(0, aR 48 0), (1, aI l1), (2, aI l2)]) (st' := [aI (gI Y.1 48 0 2), aI l2]) (cs' := []) (fun _ => rfl) al0 ?_
      refine w_icmp_ge k245 rfl (fun c => ?_) (fun c => ?_)
      · replace h := if_t c h
        refine w_sg k245 1 (pc' := 41) (ls' := [(0, aR 48 0), (1, aI l1), (2, aI l2)]) (st' := [aI l1]) (cs' := []) (fun _ => rfl) al0 ?_
        obtain rfl := Option.some.inj h
        obtain rfl := lpn_r hn3
        exact w_ireturn k245 ⟨rfl, rfl⟩
      · replace h := if_f c h
        refine w_sg k245 2 (pc' := 19) (ls' := [(0, aR 48 0), (1, aI l1), (2, aI l2)]) (st' := [aI l2, aR 48 0]) (cs' := []) (fun _ => rfl) al0 ?_
        obtain ⟨v7, Y5, hv6, h⟩ := bd_some h
        refine w_cV1 k245 (sn_189 _ _ _ hv6) rfl (st := []) rfl ?_ (fun _ _ q => q.elim)
        refine w_if_eq k245 rfl (fun c => ?_) (fun c => ?_)
        · replace h := if_t c h
          refine w_sg k245 1 (pc' := 37) (ls' := [(0, aR 48 0), (1, aI l1), (2, aI (l2 + (nI 1)))]) (st' := []) (cs' := []) (fun _ => rfl) al0 ?_
          refine w_sg k245 1 (pc' := 9) (ls' := [(0, aR 48 0), (1, aI l1), (2, aI (l2 + (nI 1)))]) (st' := []) (cs' := []) (fun _ => rfl) al0 ?_
          refine w_ls [(0, aR 48 0), (1, aI l1), (2, aI (l2 + (nI 1)))] (lq_c rfl (lq_c rfl (lq_c rfl lq_n))) ?_
          obtain rfl := Option.some.inj h
          exact ih4 _ _ _ (lpn_l hn3)
        · replace h := if_f c h
          obtain ⟨hc8, h⟩ := ck_some h
          refine w_sg k245 7 (pc' := 34) (ls' := [(0, aR 48 0), (1, aI (l1 + (gI Y5.1 49 0 (ix l2)))), (2, aI l2)]) (st' := []) (cs' := [vp_in l2 8]) (fun _ => rfl) (al1 (vin hc8)) ?_
          refine w_sg k245 1 (pc' := 37) (ls' := [(0, aR 48 0), (1, aI (l1 + (gI Y5.1 49 0 (ix l2)))), (2, aI (l2 + (nI 1)))]) (st' := []) (cs' := []) (fun _ => rfl) al0 ?_
          refine w_sg k245 1 (pc' := 9) (ls' := [(0, aR 48 0), (1, aI (l1 + (gI Y5.1 49 0 (ix l2)))), (2, aI (l2 + (nI 1)))]) (st' := []) (cs' := []) (fun _ => rfl) al0 ?_
          refine w_ls [(0, aR 48 0), (1, aI (l1 + (gI Y5.1 49 0 (ix l2)))), (2, aI (l2 + (nI 1)))] (lq_c rfl (lq_c rfl (lq_c rfl lq_n))) ?_
          obtain rfl := Option.some.inj h
          exact ih4 _ _ _ (lpn_l hn3)
  refine w_sw k245 3 (Z := (sI Y 48 0 0 (nI 0))) (pc' := 5) (ls' := [(0, aR 48 0)]) (st' := []) (cs' := [allw 48 0]) (fun _ => rfl) rfl (al1 rfl) ?_
  replace h := wr_some h
  generalize (sI Y 48 0 0 (nI 0)) = Y1 at h ⊢
  refine w_sg k245 2 (pc' := 7) (ls' := [(0, aR 48 0), (1, aI (nI 0))]) (st' := []) (cs' := []) (fun _ => rfl) al0 ?_
  refine w_sg k245 2 (pc' := 9) (ls' := [(0, aR 48 0), (1, aI (nI 0)), (2, aI (nI 0))]) (st' := []) (cs' := []) (fun _ => rfl) al0 ?_
  refine w_ls [(0, aR 48 0), (1, aI (nI 0)), (2, aI (nI 0))] (lq_c rfl (lq_c rfl (lq_c rfl lq_n))) ?_
  exact L9_0 _ _ _ _ h
set_option maxRecDepth 20000 in
set_option maxHeartbeats 4000000 in
/-- BallotBusModel.placeInOutcome -/
theorem sn_246 (a1 : Int32) {Y : Sm} (v : Int32) (Z : Sm) (h : fn_246 a1 Y = some (v, Z)) : Mt 4 0 246 [aR 48 0, aI a1] Y (Rt (some (aI v)) Z) nX := by
  refine Mt_of [(0, aR 48 0), (1, aI a1)] ?_
  generalize ho : (v, Z) = o at h
  have hv9 : v = o.1 := congrArg Prod.fst ho
  have hZ9 : Z = o.2 := congrArg Prod.snd ho
  clear ho
  subst hv9 hZ9
  unfold fn_246 at h
  have L2_0 : ∀ (l1 : Int32) (n : Nat) (l2 : Int32) (Y : Sm), lp (fun s => fn_246_L2 l1 s.1 s.2) n (l2, Y) = some o → Wm 4 0 246 0 2 [(0, aR 48 0), (1, aI l1), (2, aI l2)] [] Y (Rt (some (aI o.1)) o.2) nX := by
    intro l1 n
    induction n with
    | zero => intro l2 Y h; cases h
    | succ n ih3 =>
      intro l2 Y h
      obtain ⟨q1, h, hn2⟩ := lp_succ h
      replace h : fn_246_L2 l1 l2 Y = some q1 := h
      unfold fn_246_L2 at h
      obtain ⟨hc4, h⟩ := ck_some h
      refine w_sg k246 5 (pc' := 9) (ls' := [(0, aR 48 0), (1, aI l1), (2, aI l2)]) (st' := [aI l1, aI (gI Y.1 58 0 (ix l2))]) (cs' := [vp_in l2 5]) (fun _ => rfl) (al1 (vin hc4)) ?_
      refine w_icmp_eq k246 rfl (fun c => ?_) (fun c => ?_)
      · replace h := if_t c h
        refine w_sg k246 1 (pc' := 20) (ls' := [(0, aR 48 0), (1, aI l1), (2, aI l2)]) (st' := [aI l2]) (cs' := []) (fun _ => rfl) al0 ?_
        obtain rfl := Option.some.inj h
        obtain rfl := lpn_r hn2
        exact w_ireturn k246 ⟨rfl, rfl⟩
      · replace h := if_f c h
        refine w_sg k246 4 (pc' := 16) (ls' := [(0, aR 48 0), (1, aI l1), (2, aI (l2 + (nI 1)))]) (st' := []) (cs' := []) (fun _ => rfl) al0 ?_
        refine w_sg k246 1 (pc' := 2) (ls' := [(0, aR 48 0), (1, aI l1), (2, aI (l2 + (nI 1)))]) (st' := []) (cs' := []) (fun _ => rfl) al0 ?_
        refine w_ls [(0, aR 48 0), (1, aI l1), (2, aI (l2 + (nI 1)))] (lq_c rfl (lq_c rfl (lq_c rfl lq_n))) ?_
        obtain rfl := Option.some.inj h
        exact ih3 _ _ (lpn_l hn2)
  refine w_sg k246 2 (pc' := 2) (ls' := [(0, aR 48 0), (1, aI a1), (2, aI (nI 0))]) (st' := []) (cs' := []) (fun _ => rfl) al0 ?_
  refine w_ls [(0, aR 48 0), (1, aI a1), (2, aI (nI 0))] (lq_c rfl (lq_c rfl (lq_c rfl lq_n))) ?_
  exact L2_0 _ _ _ _ h
