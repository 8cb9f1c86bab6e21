/-! the code of the methods does what their functions say (printed by wip/whole/gen20.py) -/
set_option maxRecDepth 20000 in
set_option maxHeartbeats 4000000 in
/-- BallotBusModel.readsNumber -/
theorem sn_288 (a1 : Int32) {Y : Sm} (v : Unit) (Z : Sm) (h : fn_288 a1 Y = some (v, Z)) : Mt 9 0 288 [aR 48 0, aI a1] Y (Rt none Z) nX := by
  refine Mt_of [(0, aR 48 0), (1, aI a1)] ?_
  generalize ho : (v, Z) = o at h
  have hv9 : v = o.1 := congrArg Prod.fst ho
  have hZ9 : Z = o.2 := congrArg Prod.snd ho
  clear ho
  subst hv9 hZ9
  unfold fn_288 at h
  have J55_0 : ∀ (l1 : Int32) (l2 : Int32) (t0 : Int32) (Y : Sm), fn_288_J55 l1 l2 t0 Y = some o → Wm 9 0 288 0 55 [(0, aR 48 0), (1, aI l1), (2, aI l2)] [aI t0] Y (Rt none o.2) nX := by
    intro l1 l2 t0 Y h
    unfold fn_288_J55 at h
    refine w_sg k288 1 (pc' := 56) (ls' := [(0, aR 48 0), (1, aI l1), (2, aI l2), (3, aI t0)]) (st' := []) (cs' := []) (fun _ => rfl) al0 ?_
    refine w_sg k288 6 (pc' := 64) (ls' := [(0, aR 48 0), (1, aI l1), (2, aI l2), (3, aI t0)]) (st' := [aI t0, aI l2, aR 48 0, aI l1, aR 61 0]) (cs' := []) (fun _ => rfl) al0 ?_
    obtain ⟨v5, Y3, hv4, h⟩ := bd_some h
    refine w_cV1 k288 (sn_281 _ _ _ _ hv4) rfl (st := [aI l1, aR 61 0]) rfl ?_ (fun _ _ q => q.elim)
    obtain ⟨hc6, h⟩ := ck_some h
    refine w_sw k288 1 (Z := (sI Y3 61 0 (ix l1) v5)) (pc' := 68) (ls' := [(0, aR 48 0), (1, aI l1), (2, aI l2), (3, aI t0)]) (st' := []) (cs' := [vp_in l1 5, allw 61 0]) (fun _ => rfl) rfl (al2 (vin hc6) (al1 rfl)) ?_
    replace h := wr_some h
    generalize (sI Y3 61 0 (ix l1) v5) = Y7 at h ⊢
    obtain rfl := Option.some.inj h
    exact w_return k288 ⟨rfl, rfl⟩
  have J23_0 : ∀ (l1 : Int32) (t0 : Int32) (Y : Sm), fn_288_J23 l1 t0 Y = some o → Wm 9 0 288 0 23 [(0, aR 48 0), (1, aI l1)] [aI t0] Y (Rt none o.2) nX := by
    intro l1 t0 Y h
    unfold fn_288_J23 at h
    refine w_sg k288 1 (pc' := 24) (ls' := [(0, aR 48 0), (1, aI l1), (2, aI t0)]) (st' := []) (cs' := []) (fun _ => rfl) al0 ?_
    refine w_sg k288 1 (pc' := 25) (ls' := [(0, aR 48 0), (1, aI l1), (2, aI t0)]) (st' := [aI l1]) (cs' := []) (fun _ => rfl) al0 ?_
    refine w_if_ne k288 rfl (fun c => ?_) (fun c => ?_)
    · replace h := if_f c h
      refine w_sg k288 2 (pc' := 35) (ls' := [(0, aR 48 0), (1, aI l1), (2, aI t0)]) (st' := [aI (nI 1), aI l1]) (cs' := []) (fun _ => rfl) al0 ?_
      refine w_icmp_ne k288 rfl (fun c => ?_) (fun c => ?_)
      · replace h := if_f c h
        refine w_sg k288 2 (pc' := 45) (ls' := [(0, aR 48 0), (1, aI l1), (2, aI t0)]) (st' := [aI (nI 4), aI l1]) (cs' := []) (fun _ => rfl) al0 ?_
        refine w_icmp_ne k288 rfl (fun c => ?_) (fun c => ?_)
        · replace h := if_f c h
          refine w_sg k288 1 (pc' := 55) (ls' := [(0, aR 48 0), (1, aI l1), (2, aI t0)]) (st' := [aI (nI 99)]) (cs' := []) (fun _ => rfl) al0 ?_
          refine w_ls [(0, aR 48 0), (1, aI l1), (2, aI t0)] (lq_c rfl (lq_c rfl (lq_c rfl lq_n))) ?_
          exact J55_0 _ _ _ _ h
        · replace h := if_t c h
          refine w_sg k288 2 (pc' := 55) (ls' := [(0, aR 48 0), (1, aI l1), (2, aI t0)]) (st' := [aI (nI 9)]) (cs' := []) (fun _ => rfl) al0 ?_
          refine w_ls [(0, aR 48 0), (1, aI l1), (2, aI t0)] (lq_c rfl (lq_c rfl (lq_c rfl lq_n))) ?_
          exact J55_0 _ _ _ _ h
      · replace h := if_t c h
        refine w_sg k288 2 (pc' := 55) (ls' := [(0, aR 48 0), (1, aI l1), (2, aI t0)]) (st' := [aI (nI 50)]) (cs' := []) (fun _ => rfl) al0 ?_
        refine w_ls [(0, aR 48 0), (1, aI l1), (2, aI t0)] (lq_c rfl (lq_c rfl (lq_c rfl lq_n))) ?_
        exact J55_0 _ _ _ _ h
    · replace h := if_t c h
      refine w_sg k288 2 (pc' := 55) (ls' := [(0, aR 48 0), (1, aI l1), (2, aI t0)]) (st' := [aI (nI 20)]) (cs' := []) (fun _ => rfl) al0 ?_
      refine w_ls [(0, aR 48 0), (1, aI l1), (2, aI t0)] (lq_c rfl (lq_c rfl (lq_c rfl lq_n))) ?_
      exact J55_0 _ _ _ _ h
  have J18_0 : ∀ (l1 : Int32) (Y : Sm), fn_288_J18 l1 Y = some o → Wm 9 0 288 0 18 [(0, aR 48 0), (1, aI l1)] [] Y (Rt none o.2) nX := by
    intro l1 Y h
    unfold fn_288_J18 at h
    refine w_sg k288 2 (pc' := 23) (ls' := [(0, aR 48 0), (1, aI l1)]) (st' := [aI (nI 1)]) (cs' := []) (fun _ => rfl) al0 ?_
    refine w_ls [(0, aR 48 0), (1, aI l1)] (lq_c rfl (lq_c rfl lq_n)) ?_
    exact J23_0 _ _ _ h
  refine w_sg k288 1 (pc' := 1) (ls' := [(0, aR 48 0), (1, aI a1)]) (st' := [aR 48 0]) (cs' := []) (fun _ => rfl) al0 ?_
  obtain ⟨_, Y1, hv2, h⟩ := bd_some h
  refine w_cV0 k288 (sn_278  _ _ hv2) rfl (st := []) rfl ?_ (fun _ _ q => q.elim)
  refine w_sg k288 1 (pc' := 5) (ls' := [(0, aR 48 0), (1, aI a1)]) (st' := [aI a1]) (cs' := []) (fun _ => rfl) al0 ?_
  refine w_if_eq k288 rfl (fun c => ?_) (fun c => ?_)
  · replace h := if_t c h
    refine w_ls [(0, aR 48 0), (1, aI a1)] (lq_c rfl (lq_c rfl lq_n)) ?_
    exact J18_0 _ _ h
  · replace h := if_f c h
    refine w_sg k288 2 (pc' := 10) (ls' := [(0, aR 48 0), (1, aI a1)]) (st' := [aI (nI 1), aI a1]) (cs' := []) (fun _ => rfl) al0 ?_
    refine w_icmp_eq k288 rfl (fun c => ?_) (fun c => ?_)
    · replace h := if_t c h
      refine w_ls [(0, aR 48 0), (1, aI a1)] (lq_c rfl (lq_c rfl lq_n)) ?_
      exact J18_0 _ _ h
    · replace h := if_f c h
      refine w_sg k288 2 (pc' := 15) (ls' := [(0, aR 48 0), (1, aI a1)]) (st' := [aI (nI 4), aI a1]) (cs' := []) (fun _ => rfl) al0 ?_
      refine w_icmp_ne k288 rfl (fun c => ?_) (fun c => ?_)
      · replace h := if_f c h
        refine w_sg k288 1 (pc' := 23) (ls' := [(0, aR 48 0), (1, aI a1)]) (st' := [aI (nI 0)]) (cs' := []) (fun _ => rfl) al0 ?_
        refine w_ls [(0, aR 48 0), (1, aI a1)] (lq_c rfl (lq_c rfl lq_n)) ?_
        exact J23_0 _ _ _ h
      · replace h := if_t c h
        refine w_ls [(0, aR 48 0), (1, aI a1)] (lq_c rfl (lq_c rfl lq_n)) ?_
        exact J18_0 _ _ h
set_option maxRecDepth 20000 in
set_option maxHeartbeats 4000000 in
/-- BallotBusModel.readsTally -/
theorem sn_287 {Y : Sm} (v : Unit) (Z : Sm) (h : fn_287 Y = some (v, Z)) : Mt 8 0 287 [aR 48 0] Y (Rt none Z) nX := by
  refine Mt_of [(0, aR 48 0)] ?_
  generalize ho : (v, Z) = o at h
  have hv9 : v = o.1 := congrArg Prod.fst ho
  have hZ9 : Z = o.2 := congrArg Prod.snd ho
  clear ho
  subst hv9 hZ9
  unfold fn_287 at h
  have J35_0 : ∀ (t0 : Int32) (Y : Sm), fn_287_J35 t0 Y = some o → Wm 8 0 287 0 35 [(0, aR 48 0)] [aI t0, aR 48 0] Y (Rt none o.2) nX := by
    intro t0 Y h
    unfold fn_287_J35 at h
    refine w_sg k287 1 (pc' := 36) (ls' := [(0, aR 48 0)]) (st' := [aI (nI 1), aI t0, aR 48 0]) (cs' := []) (fun _ => rfl) al0 ?_
    obtain ⟨_, Y3, hv4, h⟩ := bd_some h
    refine w_cV0 k287 (sn_277 _ _ _ _ hv4) rfl (st := []) rfl ?_ (fun _ _ q => q.elim)
    refine w_sg k287 1 (pc' := 40) (ls' := [(0, aR 48 0)]) (st' := [aR 48 0]) (cs' := []) (fun _ => rfl) al0 ?_
    obtain ⟨v7, Y5, hv6, h⟩ := bd_some h
    refine w_cV1 k287 (sn_276  _ _ hv6) rfl (st := []) rfl ?_ (fun _ _ q => q.elim)
    refine w_if_eq k287 rfl (fun c => ?_) (fun c => ?_)
    · replace h := if_t c h
      refine w_sg k287 1 (pc' := 60) (ls' := [(0, aR 48 0)]) (st' := [aR 48 0]) (cs' := []) (fun _ => rfl) al0 ?_
      obtain ⟨_, Y8, hv9, h⟩ := bd_some h
      refine w_cV0 k287 (sn_278  _ _ hv9) rfl (st := []) rfl ?_ (fun _ _ q => q.elim)
      obtain rfl := Option.some.inj h
      exact w_return k287 ⟨rfl, rfl⟩
    · replace h := if_f c h
      refine w_sw k287 8 (Z := (sI Y5 53 0 1 ((gI Y5.1 48 0 28) - (nI 8)))) (pc' := 59) (ls' := [(0, aR 48 0)]) (st' := []) (cs' := [vp_in (nI 1) 718, allw 53 0]) (fun _ => rfl) rfl (al2 (vin rfl) (al1 rfl)) ?_
      replace h := wr_some h
      generalize (sI Y5 53 0 1 ((gI Y5.1 48 0 28) - (nI 8))) = Y10 at h ⊢
      refine w_sg k287 1 (pc' := 60) (ls' := [(0, aR 48 0)]) (st' := [aR 48 0]) (cs' := []) (fun _ => rfl) al0 ?_
      obtain ⟨_, Y11, hv12, h⟩ := bd_some h
      refine w_cV0 k287 (sn_278  _ _ hv12) rfl (st := []) rfl ?_ (fun _ _ q => q.elim)
      obtain rfl := Option.some.inj h
      exact w_return k287 ⟨rfl, rfl⟩
  have J34_0 : ∀ (Y : Sm), fn_287_J34 Y = some o → Wm 8 0 287 0 34 [(0, aR 48 0)] [aR 48 0] Y (Rt none o.2) nX := by
    intro Y h
    unfold fn_287_J34 at h
    refine w_sg k287 1 (pc' := 35) (ls' := [(0, aR 48 0)]) (st' := [aI (nI 0), aR 48 0]) (cs' := []) (fun _ => rfl) al0 ?_
    refine w_ls [(0, aR 48 0)] (lq_c rfl lq_n) ?_
    exact J35_0 _ _ h
  refine w_sg k287 1 (pc' := 1) (ls' := [(0, aR 48 0)]) (st' := [aR 48 0]) (cs' := []) (fun _ => rfl) al0 ?_
  obtain ⟨_, Y1, hv2, h⟩ := bd_some h
  refine w_cV0 k287 (sn_278  _ _ hv2) rfl (st := []) rfl ?_ (fun _ _ q => q.elim)
  refine w_sg k287 4 (pc' := 10) (ls' := [(0, aR 48 0)]) (st' := [aI (nI 1), aI (gI Y1.1 48 0 27), aR 48 0]) (cs' := []) (fun _ => rfl) al0 ?_
  refine w_icmp_ne k287 rfl (fun c => ?_) (fun c => ?_)
  · replace h := if_f c h
    refine w_ls [(0, aR 48 0)] (lq_c rfl lq_n) ?_
    exact J34_0 _ h
  · replace h := if_t c h
    refine w_sg k287 5 (pc' := 24) (ls' := [(0, aR 48 0)]) (st' := [aJ (((nI 10)).toInt64), aJ (((nI 8)).toInt64), aJ ((gI Y1.1 48 0 28).toInt64), aR 48 0]) (cs' := []) (fun _ => rfl) al0 ?_
    obtain ⟨v15, Y13, hv14, h⟩ := bd_some h
    refine w_cS1 k287 (sn_166 _ _ _ _ _ hv14) rfl (st := [aR 48 0]) rfl ?_ (fun _ _ q => q.elim)
    refine w_if_eq k287 rfl (fun c => ?_) (fun c => ?_)
    · replace h := if_t c h
      refine w_ls [(0, aR 48 0)] (lq_c rfl lq_n) ?_
      exact J34_0 _ h
    · replace h := if_f c h
      refine w_sg k287 2 (pc' := 35) (ls' := [(0, aR 48 0)]) (st' := [aI (nI 1), aR 48 0]) (cs' := []) (fun _ => rfl) al0 ?_
      refine w_ls [(0, aR 48 0)] (lq_c rfl lq_n) ?_
      exact J35_0 _ _ h
set_option maxRecDepth 20000 in
set_option maxHeartbeats 4000000 in
/-- BallotBusModel.readsOnce -/
theorem sn_289 (a1 : Int32) {Y : Sm} (v : Unit) (Z : Sm) (h : fn_289 a1 Y = some (v, Z)) : Mt 10 0 289 [aR 48 0, aI a1] Y (Rt none Z) nX := by
  refine Mt_of [(0, aR 48 0), (1, aI a1)] ?_
  generalize ho : (v, Z) = o at h
  have hv9 : v = o.1 := congrArg Prod.fst ho
  have hZ9 : Z = o.2 := congrArg Prod.snd ho
  clear ho
  subst hv9 hZ9
  unfold fn_289 at h
  have J17_0 : ∀ (l1 : Int32) (t0 : Int32) (Y : Sm), fn_289_J17 l1 t0 Y = some o → Wm 10 0 289 0 17 [(0, aR 48 0), (1, aI l1)] [aI t0, aR 48 0] Y (Rt none o.2) nX := by
    intro l1 t0 Y h
    unfold fn_289_J17 at h
    refine w_sg k289 1 (pc' := 18) (ls' := [(0, aR 48 0), (1, aI l1)]) (st' := [aI (nI 3), aI t0, aR 48 0]) (cs' := []) (fun _ => rfl) al0 ?_
    obtain ⟨_, Y4, hv5, h⟩ := bd_some h
    refine w_cV0 k289 (sn_277 _ _ _ _ hv5) rfl (st := []) rfl ?_ (fun _ _ q => q.elim)
    refine w_sw k289 8 (Z := (sI Y4 48 0 35 ((gI Y4.1 48 0 35) ||| ((nI 1) <<< (l1 &&& 31))))) (pc' := 33) (ls' := [(0, aR 48 0), (1, aI l1)]) (st' := []) (cs' := [allw 48 0]) (fun _ => rfl) rfl (al1 rfl) ?_
    replace h := wr_some h
    generalize (sI Y4 48 0 35 ((gI Y4.1 48 0 35) ||| ((nI 1) <<< (l1 &&& 31)))) = Y6 at h ⊢
    refine w_sg k289 1 (pc' := 34) (ls' := [(0, aR 48 0), (1, aI l1)]) (st' := [aR 48 0]) (cs' := []) (fun _ => rfl) al0 ?_
    obtain ⟨v9, Y7, hv8, h⟩ := bd_some h
    refine w_cV1 k289 (sn_276  _ _ hv8) rfl (st := []) rfl ?_ (fun _ _ q => q.elim)
    refine w_if_ne k289 rfl (fun c => ?_) (fun c => ?_)
    · replace h := if_f c h
      refine w_sg k289 1 (pc' := 42) (ls' := [(0, aR 48 0), (1, aI l1)]) (st' := [aI l1]) (cs' := []) (fun _ => rfl) al0 ?_
      refine w_if_ne k289 rfl (fun c => ?_) (fun c => ?_)
      · replace h := if_f c h
        refine w_sg k289 3 (pc' := 55) (ls' := [(0, aR 48 0), (1, aI l1)]) (st' := [aI (nI 1), aI l1, aR 48 0]) (cs' := []) (fun _ => rfl) al0 ?_
        refine w_icmp_ne k289 rfl (fun c => ?_) (fun c => ?_)
        · replace h := if_f c h
          refine w_sg k289 2 (pc' := 64) (ls' := [(0, aR 48 0), (1, aI l1)]) (st' := [aI (nI 2), aI l1, aR 48 0]) (cs' := []) (fun _ => rfl) al0 ?_
          refine w_icmp_ne k289 rfl (fun c => ?_) (fun c => ?_)
          · replace h := if_f c h
            refine w_sg k289 2 (pc' := 73) (ls' := [(0, aR 48 0), (1, aI l1)]) (st' := [aI (nI 3), aI l1, aR 48 0]) (cs' := []) (fun _ => rfl) al0 ?_
            refine w_icmp_ne k289 rfl (fun c => ?_) (fun c => ?_)
            · replace h := if_f c h
              refine w_sg k289 2 (pc' := 82) (ls' := [(0, aR 48 0), (1, aI l1)]) (st' := [aI (nI 4), aI l1, aR 48 0]) (cs' := []) (fun _ => rfl) al0 ?_
              refine w_icmp_ne k289 rfl (fun c => ?_) (fun c => ?_)
              · replace h := if_f c h
                refine w_sg k289 1 (pc' := 90) (ls' := [(0, aR 48 0), (1, aI l1)]) (st' := [aI (nI 4), aR 48 0]) (cs' := []) (fun _ => rfl) al0 ?_
                obtain ⟨_, Y10, hv11, h⟩ := bd_some h
                refine w_cV0 k289 (sn_288 _ _ _ hv11) rfl (st := []) rfl ?_ (fun _ _ q => q.elim)
                obtain rfl := Option.some.inj h
                exact w_return k289 ⟨rfl, rfl⟩
              · replace h := if_t c h
                refine w_sg k289 2 (pc' := 90) (ls' := [(0, aR 48 0), (1, aI l1)]) (st' := [aI (nI 3), aR 48 0]) (cs' := []) (fun _ => rfl) al0 ?_
                obtain ⟨_, Y12, hv13, h⟩ := bd_some h
                refine w_cV0 k289 (sn_288 _ _ _ hv13) rfl (st := []) rfl ?_ (fun _ _ q => q.elim)
                obtain rfl := Option.some.inj h
                exact w_return k289 ⟨rfl, rfl⟩
            · replace h := if_t c h
              refine w_sg k289 2 (pc' := 90) (ls' := [(0, aR 48 0), (1, aI l1)]) (st' := [aI (nI 2), aR 48 0]) (cs' := []) (fun _ => rfl) al0 ?_
              obtain ⟨_, Y14, hv15, h⟩ := bd_some h
              refine w_cV0 k289 (sn_288 _ _ _ hv15) rfl (st := []) rfl ?_ (fun _ _ q => q.elim)
              obtain rfl := Option.some.inj h
              exact w_return k289 ⟨rfl, rfl⟩
          · replace h := if_t c h
            refine w_sg k289 2 (pc' := 90) (ls' := [(0, aR 48 0), (1, aI l1)]) (st' := [aI (nI 1), aR 48 0]) (cs' := []) (fun _ => rfl) al0 ?_
            obtain ⟨_, Y16, hv17, h⟩ := bd_some h
            refine w_cV0 k289 (sn_288 _ _ _ hv17) rfl (st := []) rfl ?_ (fun _ _ q => q.elim)
            obtain rfl := Option.some.inj h
            exact w_return k289 ⟨rfl, rfl⟩
        · replace h := if_t c h
          refine w_sg k289 2 (pc' := 90) (ls' := [(0, aR 48 0), (1, aI l1)]) (st' := [aI (nI 0), aR 48 0]) (cs' := []) (fun _ => rfl) al0 ?_
          obtain ⟨_, Y18, hv19, h⟩ := bd_some h
          refine w_cV0 k289 (sn_288 _ _ _ hv19) rfl (st := []) rfl ?_ (fun _ _ q => q.elim)
          obtain rfl := Option.some.inj h
          exact w_return k289 ⟨rfl, rfl⟩
      · replace h := if_t c h
        refine w_sg k289 1 (pc' := 46) (ls' := [(0, aR 48 0), (1, aI l1)]) (st' := [aR 48 0]) (cs' := []) (fun _ => rfl) al0 ?_
        obtain ⟨_, Y20, hv21, h⟩ := bd_some h
        refine w_cV0 k289 (sn_287  _ _ hv21) rfl (st := []) rfl ?_ (fun _ _ q => q.elim)
        refine w_sg k289 1 (pc' := 93) (ls' := [(0, aR 48 0), (1, aI l1)]) (st' := []) (cs' := []) (fun _ => rfl) al0 ?_
        obtain rfl := Option.some.inj h
        exact w_return k289 ⟨rfl, rfl⟩
    · replace h := if_t c h
      obtain rfl := Option.some.inj h
      exact w_return k289 ⟨rfl, rfl⟩
  refine w_sg k289 4 (pc' := 6) (ls' := [(0, aR 48 0), (1, aI a1)]) (st' := [aI a1, aI (gI Y.1 48 0 35), aR 48 0]) (cs' := []) (fun _ => rfl) al0 ?_
  obtain ⟨v3, Y1, hv2, h⟩ := bd_some h
  refine w_cS1 k289 (sn_167 _ _ _ _ hv2) rfl (st := [aR 48 0]) rfl ?_ (fun _ _ q => q.elim)
  refine w_if_ne k289 rfl (fun c => ?_) (fun c => ?_)
  · replace h := if_f c h
    refine w_sg k289 1 (pc' := 17) (ls' := [(0, aR 48 0), (1, aI a1)]) (st' := [aI (nI 0), aR 48 0]) (cs' := []) (fun _ => rfl) al0 ?_
    refine w_ls [(0, aR 48 0), (1, aI a1)] (lq_c rfl (lq_c rfl lq_n)) ?_
    exact J17_0 _ _ _ h
  · replace h := if_t c h
    refine w_sg k289 2 (pc' := 17) (ls' := [(0, aR 48 0), (1, aI a1)]) (st' := [aI (nI 1), aR 48 0]) (cs' := []) (fun _ => rfl) al0 ?_
    refine w_ls [(0, aR 48 0), (1, aI a1)] (lq_c rfl (lq_c rfl lq_n)) ?_
    exact J17_0 _ _ _ h
set_option maxRecDepth 20000 in
set_option maxHeartbeats 4000000 in
/-- BallotBusModel.isName -/
theorem sn_280 {Y : Sm} (v : Int32) (Z : Sm) (h : fn_280 Y = some (v, Z)) : Mt 4 0 280 [aR 48 0] Y (Rt (some (aI v)) Z) nX := by
  refine Mt_of [(0, aR 48 0)] ?_
  generalize ho : (v, Z) = o at h
  have hv9 : v = o.1 := congrArg Prod.fst ho
  have hZ9 : Z = o.2 := congrArg Prod.snd ho
  clear ho
  subst hv9 hZ9
  unfold fn_280 at h
  refine w_sg k280 3 (pc' := 5) (ls' := [(0, aR 48 0)]) (st' := [aI (nI 1), aI (gI Y.1 48 0 27)]) (cs' := []) (fun _ => rfl) al0 ?_
  refine w_icmp_ne k280 rfl (fun c => ?_) (fun c => ?_)
  · replace h := if_f c h
    refine w_sg k280 1 (pc' := 35) (ls' := [(0, aR 48 0)]) (st' := [aI (nI 0)]) (cs' := []) (fun _ => rfl) al0 ?_
    obtain rfl := Option.some.inj h
    exact w_zreturn k280 (Or.inl rfl) ⟨rfl, rfl⟩
  · replace h := if_t c h
    refine w_sg k280 3 (pc' := 13) (ls' := [(0, aR 48 0)]) (st' := [aI (-1 : Int32), aI (gI Y.1 48 0 28)]) (cs' := []) (fun _ => rfl) al0 ?_
    refine w_icmp_ne k280 rfl (fun c => ?_) (fun c => ?_)
    · replace h := if_f c h
      refine w_sg k280 1 (pc' := 35) (ls' := [(0, aR 48 0)]) (st' := [aI (nI 0)]) (cs' := []) (fun _ => rfl) al0 ?_
      obtain rfl := Option.some.inj h
      exact w_zreturn k280 (Or.inl rfl) ⟨rfl, rfl⟩
    · replace h := if_t c h
      refine w_sg k280 6 (pc' := 27) (ls' := [(0, aR 48 0)]) (st' := [aI (nI 6), aI ((gI Y.1 48 0 25) - (gI Y.1 48 0 26))]) (cs' := []) (fun _ => rfl) al0 ?_
      refine w_icmp_gt k280 rfl (fun c => ?_) (fun c => ?_)
      · replace h := if_t c h
        refine w_sg k280 1 (pc' := 35) (ls' := [(0, aR 48 0)]) (st' := [aI (nI 0)]) (cs' := []) (fun _ => rfl) al0 ?_
        obtain rfl := Option.some.inj h
        exact w_zreturn k280 (Or.inl rfl) ⟨rfl, rfl⟩
      · replace h := if_f c h
        refine w_sg k280 2 (pc' := 35) (ls' := [(0, aR 48 0)]) (st' := [aI (nI 1)]) (cs' := []) (fun _ => rfl) al0 ?_
        obtain rfl := Option.some.inj h
        exact w_zreturn k280 (Or.inr rfl) ⟨rfl, rfl⟩
set_option maxRecDepth 20000 in
set_option maxHeartbeats 4000000 in
/-- BallotBusModel.indexOf -/
theorem sn_282_64 (a1 : Int32) (a2 : Int64) {Y : Sm} (v : Int32) (Z : Sm) (h : fn_282_64 a1 a2 Y = some (v, Z)) : Mt 4 0 282 [aR 64 0, aI a1, aJ a2] Y (Rt (some (aI v)) Z) nX := by
  refine Mt_of [(0, aR 64 0), (1, aI a1), (2, aJ a2)] ?_
  generalize ho : (v, Z) = o at h
  have hv9 : v = o.1 := congrArg Prod.fst ho
  have hZ9 : Z = o.2 := congrArg Prod.snd ho
  clear ho
  subst hv9 hZ9
  unfold fn_282_64 at h
  have L3_0 : ∀ (l1 : Int32) (l2 : Int64) (n : Nat) (l4 : Int32) (Y : Sm), lp (fun s => fn_282_64_L3 l1 l2 s.1 s.2) n (l4, Y) = some o → Wm 4 0 282 0 3 [(0, aR 64 0), (1, aI l1), (2, aJ l2), (4, aI l4)] [] Y (Rt (some (aI o.1)) o.2) nX := by
    intro l1 l2 n
    induction n with
    | zero => intro l4 Y h; cases h
    | succ n ih3 =>
      intro l4 Y h
      obtain ⟨q1, h, hn2⟩ := lp_succ h
      replace h : fn_282_64_L3 l1 l2 l4 Y = some q1 := h
      unfold fn_282_64_L3 at h
      refine w_sg k282 2 (pc' := 6) (ls' := [(0, aR 64 0), (1, aI l1), (2, aJ l2), (4, aI l4)]) (st' := [aI l1, aI l4]) (cs' := []) (fun _ => rfl) al0 ?_
      refine w_icmp_ge k282 rfl (fun c => ?_) (fun c => ?_)
      · replace h := if_t c h
        refine w_sg k282 1 (pc' := 28) (ls' := [(0, aR 64 0), (1, aI l1), (2, aJ l2), (4, aI l4)]) (st' := [aI (-1 : Int32)]) (cs' := []) (fun _ => rfl) al0 ?_
        obtain rfl := Option.some.inj h
        obtain rfl := lpn_r hn2
        exact w_ireturn k282 ⟨rfl, rfl⟩
      · replace h := if_f c h
        obtain ⟨hc4, h⟩ := ck_some h
        refine w_sg k282 5 (pc' := 15) (ls' := [(0, aR 64 0), (1, aI l1), (2, aJ l2), (4, aI l4)]) (st' := [aI (lg_cmp (gJ Y.1 64 0 (ix l4)) l2)]) (cs' := [vp_in l4 8]) (fun _ => rfl) (al1 (vin hc4)) ?_
        refine w_if_ne k282 rfl (fun c => ?_) (fun c => ?_)
        · replace h := if_f c h
          refine w_sg k282 1 (pc' := 24) (ls' := [(0, aR 64 0), (1, aI l1), (2, aJ l2), (4, aI (l4 + (nI 1)))]) (st' := []) (cs' := []) (fun _ => rfl) al0 ?_
          refine w_sg k282 1 (pc' := 3) (ls' := [(0, aR 64 0), (1, aI l1), (2, aJ l2), (4, aI (l4 + (nI 1)))]) (st' := []) (cs' := []) (fun _ => rfl) al0 ?_
          refine w_ls [(0, aR 64 0), (1, aI l1), (2, aJ l2), (4, aI (l4 + (nI 1)))] (lq_c rfl (lq_c rfl (lq_c rfl (lq_c rfl lq_n)))) ?_
          obtain rfl := Option.some.inj h
          exact ih3 _ _ (lpn_l hn2)
        · replace h := if_t c h
          refine w_sg k282 1 (pc' := 20) (ls' := [(0, aR 64 0), (1, aI l1), (2, aJ l2), (4, aI l4)]) (st' := [aI l4]) (cs' := []) (fun _ => rfl) al0 ?_
          obtain rfl := Option.some.inj h
          obtain rfl := lpn_r hn2
          exact w_ireturn k282 ⟨rfl, rfl⟩
  refine w_sg k282 2 (pc' := 3) (ls' := [(0, aR 64 0), (1, aI a1), (2, aJ a2), (4, aI (nI 0))]) (st' := []) (cs' := []) (fun _ => rfl) al0 ?_
  refine w_ls [(0, aR 64 0), (1, aI a1), (2, aJ a2), (4, aI (nI 0))] (lq_c rfl (lq_c rfl (lq_c rfl (lq_c rfl lq_n)))) ?_
  exact L3_0 _ _ _ _ _ h
set_option maxRecDepth 20000 in
set_option maxHeartbeats 4000000 in
/-- BallotBusModel.known -/
theorem sn_284_48_64 (a2 : Int32) {Y : Sm} (v : Int32) (Z : Sm) (h : fn_284_48_64 a2 Y = some (v, Z)) : Mt 8 0 284 [aR 48 0, aR 64 0, aI a2] Y (Rt (some (aI v)) Z) nX := by
  refine Mt_of [(0, aR 48 0), (1, aR 64 0), (2, aI a2)] ?_
  generalize ho : (v, Z) = o at h
  have hv9 : v = o.1 := congrArg Prod.fst ho
  have hZ9 : Z = o.2 := congrArg Prod.snd ho
  clear ho
  subst hv9 hZ9
  unfold fn_284_48_64 at h
  refine w_sg k284 2 (pc' := 2) (ls' := [(0, aR 48 0), (1, aR 64 0), (2, aI a2)]) (st' := [aR 48 0, aR 48 0]) (cs' := []) (fun _ => rfl) al0 ?_
  obtain ⟨v3, Y1, hv2, h⟩ := bd_some h
  refine w_cV1 k284 (sn_280  _ _ hv2) rfl (st := [aR 48 0]) rfl ?_ (fun _ _ q => q.elim)
  refine w_sg k284 1 (pc' := 6) (ls' := [(0, aR 48 0), (1, aR 64 0), (2, aI a2)]) (st' := [aI (nI 1), aI v3, aR 48 0]) (cs' := []) (fun _ => rfl) al0 ?_
  obtain ⟨_, Y4, hv5, h⟩ := bd_some h
  refine w_cV0 k284 (sn_277 _ _ _ _ hv5) rfl (st := []) rfl ?_ (fun _ _ q => q.elim)
  refine w_sg k284 4 (pc' := 15) (ls' := [(0, aR 48 0), (1, aR 64 0), (2, aI a2)]) (st' := [aJ (gJ Y4.1 48 0 30), aI a2, aR 64 0]) (cs' := []) (fun _ => rfl) al0 ?_
  obtain ⟨v8, Y6, hv7, h⟩ := bd_some h
  refine w_cS1 k284 (sn_282_64 _ _ _ _ hv7) rfl (st := []) rfl ?_ (fun _ _ q => q.elim)
  refine w_sg k284 1 (pc' := 19) (ls' := [(0, aR 48 0), (1, aR 64 0), (2, aI a2), (3, aI v8)]) (st' := []) (cs' := []) (fun _ => rfl) al0 ?_
  refine w_sg k284 1 (pc' := 20) (ls' := [(0, aR 48 0), (1, aR 64 0), (2, aI a2), (3, aI v8)]) (st' := [aR 48 0]) (cs' := []) (fun _ => rfl) al0 ?_
  obtain ⟨v11, Y9, hv10, h⟩ := bd_some h
  refine w_cV1 k284 (sn_276  _ _ hv10) rfl (st := []) rfl ?_ (fun _ _ q => q.elim)
  refine w_if_eq k284 rfl (fun c => ?_) (fun c => ?_)
  · replace h := if_t c h
    refine w_sg k284 1 (pc' := 42) (ls' := [(0, aR 48 0), (1, aR 64 0), (2, aI a2), (3, aI v8)]) (st' := [aR 48 0]) (cs' := []) (fun _ => rfl) al0 ?_
    obtain ⟨_, Y12, hv13, h⟩ := bd_some h
    refine w_cV0 k284 (sn_278  _ _ hv13) rfl (st := []) rfl ?_ (fun _ _ q => q.elim)
    refine w_sg k284 1 (pc' := 46) (ls' := [(0, aR 48 0), (1, aR 64 0), (2, aI a2), (3, aI v8)]) (st' := [aI v8]) (cs' := []) (fun _ => rfl) al0 ?_
    obtain rfl := Option.some.inj h
    exact w_ireturn k284 ⟨rfl, rfl⟩
  · replace h := if_f c h
    refine w_sg k284 3 (pc' := 29) (ls' := [(0, aR 48 0), (1, aR 64 0), (2, aI a2), (3, aI v8)]) (st' := [aI (-1 : Int32), aI v8, aR 48 0]) (cs' := []) (fun _ => rfl) al0 ?_
    refine w_icmp_eq k284 rfl (fun c => ?_) (fun c => ?_)
    · replace h := if_t c h
      refine w_sg k284 2 (pc' := 38) (ls' := [(0, aR 48 0), (1, aR 64 0), (2, aI a2), (3, aI v8)]) (st' := [aI (nI 3), aI (nI 0), aR 48 0]) (cs' := []) (fun _ => rfl) al0 ?_
      obtain ⟨_, Y14, hv15, h⟩ := bd_some h
      refine w_cV0 k284 (sn_277 _ _ _ _ hv15) rfl (st := []) rfl ?_ (fun _ _ q => q.elim)
      refine w_sg k284 1 (pc' := 42) (ls' := [(0, aR 48 0), (1, aR 64 0), (2, aI a2), (3, aI v8)]) (st' := [aR 48 0]) (cs' := []) (fun _ => rfl) al0 ?_
      obtain ⟨_, Y16, hv17, h⟩ := bd_some h
      refine w_cV0 k284 (sn_278  _ _ hv17) rfl (st := []) rfl ?_ (fun _ _ q => q.elim)
      refine w_sg k284 1 (pc' := 46) (ls' := [(0, aR 48 0), (1, aR 64 0), (2, aI a2), (3, aI v8)]) (st' := [aI v8]) (cs' := []) (fun _ => rfl) al0 ?_
      obtain rfl := Option.some.inj h
      exact w_ireturn k284 ⟨rfl, rfl⟩
    · replace h := if_f c h
      refine w_sg k284 3 (pc' := 38) (ls' := [(0, aR 48 0), (1, aR 64 0), (2, aI a2), (3, aI v8)]) (st' := [aI (nI 3), aI (nI 1), aR 48 0]) (cs' := []) (fun _ => rfl) al0 ?_
      obtain ⟨_, Y18, hv19, h⟩ := bd_some h
      refine w_cV0 k284 (sn_277 _ _ _ _ hv19) rfl (st := []) rfl ?_ (fun _ _ q => q.elim)
      refine w_sg k284 1 (pc' := 42) (ls' := [(0, aR 48 0), (1, aR 64 0), (2, aI a2), (3, aI v8)]) (st' := [aR 48 0]) (cs' := []) (fun _ => rfl) al0 ?_
      obtain ⟨_, Y20, hv21, h⟩ := bd_some h
      refine w_cV0 k284 (sn_278  _ _ hv21) rfl (st := []) rfl ?_ (fun _ _ q => q.elim)
      refine w_sg k284 1 (pc' := 46) (ls' := [(0, aR 48 0), (1, aR 64 0), (2, aI a2), (3, aI v8)]) (st' := [aI v8]) (cs' := []) (fun _ => rfl) al0 ?_
      obtain rfl := Option.some.inj h
      exact w_ireturn k284 ⟨rfl, rfl⟩
set_option maxRecDepth 20000 in
set_option maxHeartbeats 4000000 in
/-- BallotBusModel.indexOf -/
theorem sn_282_63 (a1 : Int32) (a2 : Int64) {Y : Sm} (v : Int32) (Z : Sm) (h : fn_282_63 a1 a2 Y = some (v, Z)) : Mt 4 0 282 [aR 63 0, aI a1, aJ a2] Y (Rt (some (aI v)) Z) nX := by
  refine Mt_of [(0, aR 63 0), (1, aI a1), (2, aJ a2)] ?_
  generalize ho : (v, Z) = o at h
  have hv9 : v = o.1 := congrArg Prod.fst ho
  have hZ9 : Z = o.2 := congrArg Prod.snd ho
  clear ho
  subst hv9 hZ9
  unfold fn_282_63 at h
  have L3_0 : ∀ (l1 : Int32) (l2 : Int64) (n : Nat) (l4 : Int32) (Y : Sm), lp (fun s => fn_282_63_L3 l1 l2 s.1 s.2) n (l4, Y) = some o → Wm 4 0 282 0 3 [(0, aR 63 0), (1, aI l1), (2, aJ l2), (4, aI l4)] [] Y (Rt (some (aI o.1)) o.2) nX := by
    intro l1 l2 n
    induction n with
    | zero => intro l4 Y h; cases h
    | succ n ih3 =>
      intro l4 Y h
      obtain ⟨q1, h, hn2⟩ := lp_succ h
      replace h : fn_282_63_L3 l1 l2 l4 Y = some q1 := h
      unfold fn_282_63_L3 at h
      refine w_sg k282 2 (pc' := 6) (ls' := [(0, aR 63 0), (1, aI l1), (2, aJ l2), (4, aI l4)]) (st' := [aI l1, aI l4]) (cs' := []) (fun _ => rfl) al0 ?_
      refine w_icmp_ge k282 rfl (fun c => ?_) (fun c => ?_)
      · replace h := if_t c h
        refine w_sg k282 1 (pc' := 28) (ls' := [(0, aR 63 0), (1, aI l1), (2, aJ l2), (4, aI l4)]) (st' := [aI (-1 : Int32)]) (cs' := []) (fun _ => rfl) al0 ?_
        obtain rfl := Option.some.inj h
        obtain rfl := lpn_r hn2
        exact w_ireturn k282 ⟨rfl, rfl⟩
      · replace h := if_f c h
        obtain ⟨hc4, h⟩ := ck_some h
        refine w_sg k282 5 (pc' := 15) (ls' := [(0, aR 63 0), (1, aI l1), (2, aJ l2), (4, aI l4)]) (st' := [aI (lg_cmp (gJ Y.1 63 0 (ix l4)) l2)]) (cs' := [vp_in l4 5]) (fun _ => rfl) (al1 (vin hc4)) ?_
        refine w_if_ne k282 rfl (fun c => ?_) (fun c => ?_)
        · replace h := if_f c h
          refine w_sg k282 1 (pc' := 24) (ls' := [(0, aR 63 0), (1, aI l1), (2, aJ l2), (4, aI (l4 + (nI 1)))]) (st' := []) (cs' := []) (fun _ => rfl) al0 ?_
          refine w_sg k282 1 (pc' := 3) (ls' := [(0, aR 63 0), (1, aI l1), (2, aJ l2), (4, aI (l4 + (nI 1)))]) (st' := []) (cs' := []) (fun _ => rfl) al0 ?_
          refine w_ls [(0, aR 63 0), (1, aI l1), (2, aJ l2), (4, aI (l4 + (nI 1)))] (lq_c rfl (lq_c rfl (lq_c rfl (lq_c rfl lq_n)))) ?_
          obtain rfl := Option.some.inj h
          exact ih3 _ _ (lpn_l hn2)
        · replace h := if_t c h
          refine w_sg k282 1 (pc' := 20) (ls' := [(0, aR 63 0), (1, aI l1), (2, aJ l2), (4, aI l4)]) (st' := [aI l4]) (cs' := []) (fun _ => rfl) al0 ?_
          obtain rfl := Option.some.inj h
          obtain rfl := lpn_r hn2
          exact w_ireturn k282 ⟨rfl, rfl⟩
  refine w_sg k282 2 (pc' := 3) (ls' := [(0, aR 63 0), (1, aI a1), (2, aJ a2), (4, aI (nI 0))]) (st' := []) (cs' := []) (fun _ => rfl) al0 ?_
  refine w_ls [(0, aR 63 0), (1, aI a1), (2, aJ a2), (4, aI (nI 0))] (lq_c rfl (lq_c rfl (lq_c rfl (lq_c rfl lq_n)))) ?_
  exact L3_0 _ _ _ _ _ h
set_option maxRecDepth 20000 in
set_option maxHeartbeats 4000000 in
/-- BallotBusModel.known -/
theorem sn_284_48_63 (a2 : Int32) {Y : Sm} (v : Int32) (Z : Sm) (h : fn_284_48_63 a2 Y = some (v, Z)) : Mt 8 0 284 [aR 48 0, aR 63 0, aI a2] Y (Rt (some (aI v)) Z) nX := by
  refine Mt_of [(0, aR 48 0), (1, aR 63 0), (2, aI a2)] ?_
  generalize ho : (v, Z) = o at h
  have hv9 : v = o.1 := congrArg Prod.fst ho
  have hZ9 : Z = o.2 := congrArg Prod.snd ho
  clear ho
  subst hv9 hZ9
  unfold fn_284_48_63 at h
  refine w_sg k284 2 (pc' := 2) (ls' := [(0, aR 48 0), (1, aR 63 0), (2, aI a2)]) (st' := [aR 48 0, aR 48 0]) (cs' := []) (fun _ => rfl) al0 ?_
  obtain ⟨v3, Y1, hv2, h⟩ := bd_some h
  refine w_cV1 k284 (sn_280  _ _ hv2) rfl (st := [aR 48 0]) rfl ?_ (fun _ _ q => q.elim)
  refine w_sg k284 1 (pc' := 6) (ls' := [(0, aR 48 0), (1, aR 63 0), (2, aI a2)]) (st' := [aI (nI 1), aI v3, aR 48 0]) (cs' := []) (fun _ => rfl) al0 ?_
  obtain ⟨_, Y4, hv5, h⟩ := bd_some h
  refine w_cV0 k284 (sn_277 _ _ _ _ hv5) rfl (st := []) rfl ?_ (fun _ _ q => q.elim)
  refine w_sg k284 4 (pc' := 15) (ls' := [(0, aR 48 0), (1, aR 63 0), (2, aI a2)]) (st' := [aJ (gJ Y4.1 48 0 30), aI a2, aR 63 0]) (cs' := []) (fun _ => rfl) al0 ?_
  obtain ⟨v8, Y6, hv7, h⟩ := bd_some h
  refine w_cS1 k284 (sn_282_63 _ _ _ _ hv7) rfl (st := []) rfl ?_ (fun _ _ q => q.elim)
  refine w_sg k284 1 (pc' := 19) (ls' := [(0, aR 48 0), (1, aR 63 0), (2, aI a2), (3, aI v8)]) (st' := []) (cs' := []) (fun _ => rfl) al0 ?_
  refine w_sg k284 1 (pc' := 20) (ls' := [(0, aR 48 0), (1, aR 63 0), (2, aI a2), (3, aI v8)]) (st' := [aR 48 0]) (cs' := []) (fun _ => rfl) al0 ?_
  obtain ⟨v11, Y9, hv10, h⟩ := bd_some h
  refine w_cV1 k284 (sn_276  _ _ hv10) rfl (st := []) rfl ?_ (fun _ _ q => q.elim)
  refine w_if_eq k284 rfl (fun c => ?_) (fun c => ?_)
  · replace h := if_t c h
    refine w_sg k284 1 (pc' := 42) (ls' := [(0, aR 48 0), (1, aR 63 0), (2, aI a2), (3, aI v8)]) (st' := [aR 48 0]) (cs' := []) (fun _ => rfl) al0 ?_
    obtain ⟨_, Y12, hv13, h⟩ := bd_some h
    refine w_cV0 k284 (sn_278  _ _ hv13) rfl (st := []) rfl ?_ (fun _ _ q => q.elim)
    refine w_sg k284 1 (pc' := 46) (ls' := [(0, aR 48 0), (1, aR 63 0), (2, aI a2), (3, aI v8)]) (st' := [aI v8]) (cs' := []) (fun _ => rfl) al0 ?_
    obtain rfl := Option.some.inj h
    exact w_ireturn k284 ⟨rfl, rfl⟩
  · replace h := if_f c h
    refine w_sg k284 3 (pc' := 29) (ls' := [(0, aR 48 0), (1, aR 63 0), (2, aI a2), (3, aI v8)]) (st' := [aI (-1 : Int32), aI v8, aR 48 0]) (cs' := []) (fun _ => rfl) al0 ?_
    refine w_icmp_eq k284 rfl (fun c => ?_) (fun c => ?_)
    · replace h := if_t c h
      refine w_sg k284 2 (pc' := 38) (ls' := [(0, aR 48 0), (1, aR 63 0), (2, aI a2), (3, aI v8)]) (st' := [aI (nI 3), aI (nI 0), aR 48 0]) (cs' := []) (fun _ => rfl) al0 ?_
      obtain ⟨_, Y14, hv15, h⟩ := bd_some h
      refine w_cV0 k284 (sn_277 _ _ _ _ hv15) rfl (st := []) rfl ?_ (fun _ _ q => q.elim)
      refine w_sg k284 1 (pc' := 42) (ls' := [(0, aR 48 0), (1, aR 63 0), (2, aI a2), (3, aI v8)]) (st' := [aR 48 0]) (cs' := []) (fun _ => rfl) al0 ?_
      obtain ⟨_, Y16, hv17, h⟩ := bd_some h
      refine w_cV0 k284 (sn_278  _ _ hv17) rfl (st := []) rfl ?_ (fun _ _ q => q.elim)
      refine w_sg k284 1 (pc' := 46) (ls' := [(0, aR 48 0), (1, aR 63 0), (2, aI a2), (3, aI v8)]) (st' := [aI v8]) (cs' := []) (fun _ => rfl) al0 ?_
      obtain rfl := Option.some.inj h
      exact w_ireturn k284 ⟨rfl, rfl⟩
    · replace h := if_f c h
      refine w_sg k284 3 (pc' := 38) (ls' := [(0, aR 48 0), (1, aR 63 0), (2, aI a2), (3, aI v8)]) (st' := [aI (nI 3), aI (nI 1), aR 48 0]) (cs' := []) (fun _ => rfl) al0 ?_
      obtain ⟨_, Y18, hv19, h⟩ := bd_some h
      refine w_cV0 k284 (sn_277 _ _ _ _ hv19) rfl (st := []) rfl ?_ (fun _ _ q => q.elim)
      refine w_sg k284 1 (pc' := 42) (ls' := [(0, aR 48 0), (1, aR 63 0), (2, aI a2), (3, aI v8)]) (st' := [aR 48 0]) (cs' := []) (fun _ => rfl) al0 ?_
      obtain ⟨_, Y20, hv21, h⟩ := bd_some h
      refine w_cV0 k284 (sn_278  _ _ hv21) rfl (st := []) rfl ?_ (fun _ _ q => q.elim)
      refine w_sg k284 1 (pc' := 46) (ls' := [(0, aR 48 0), (1, aR 63 0), (2, aI a2), (3, aI v8)]) (st' := [aI v8]) (cs' := []) (fun _ => rfl) al0 ?_
      obtain rfl := Option.some.inj h
      exact w_ireturn k284 ⟨rfl, rfl⟩
set_option maxRecDepth 20000 in
set_option maxHeartbeats 4000000 in
/-- BallotBusModel.readsAsk -/
theorem sn_290 {Y : Sm} (v : Unit) (Z : Sm) (h : fn_290 Y = some (v, Z)) : Mt 9 0 290 [aR 48 0] Y (Rt none Z) nX := by
  refine Mt_of [(0, aR 48 0)] ?_
  generalize ho : (v, Z) = o at h
  have hv9 : v = o.1 := congrArg Prod.fst ho
  have hZ9 : Z = o.2 := congrArg Prod.snd ho
  clear ho
  subst hv9 hZ9
  unfold fn_290 at h
  have J18_0 : ∀ (t0 : Int32) (Y : Sm), fn_290_J18 t0 Y = some o → Wm 9 0 290 0 18 [(0, aR 48 0)] [aI t0, aR 48 0] Y (Rt none o.2) nX := by
    intro t0 Y h
    unfold fn_290_J18 at h
    refine w_sg k290 1 (pc' := 19) (ls' := [(0, aR 48 0)]) (st' := [aI (nI 4), aI t0, aR 48 0]) (cs' := []) (fun _ => rfl) al0 ?_
    obtain ⟨_, Y1, hv2, h⟩ := bd_some h
    refine w_cV0 k290 (sn_277 _ _ _ _ hv2) rfl (st := []) rfl ?_ (fun _ _ q => q.elim)
    refine w_sg k290 1 (pc' := 23) (ls' := [(0, aR 48 0)]) (st' := [aR 48 0]) (cs' := []) (fun _ => rfl) al0 ?_
    obtain ⟨_, Y3, hv4, h⟩ := bd_some h
    refine w_cV0 k290 (sn_278  _ _ hv4) rfl (st := []) rfl ?_ (fun _ _ q => q.elim)
    refine w_sg k290 5 (pc' := 35) (ls' := [(0, aR 48 0)]) (st' := [aI (gI Y3.1 48 0 34), aR 64 0, aR 48 0]) (cs' := []) (fun _ => rfl) al0 ?_
    obtain ⟨v7, Y5, hv6, h⟩ := bd_some h
    refine w_cV1 k290 (sn_284_48_64 _ _ _ hv6) rfl (st := []) rfl ?_ (fun _ _ q => q.elim)
    refine w_sg k290 1 (pc' := 39) (ls' := [(0, aR 48 0), (1, aI v7)]) (st' := []) (cs' := []) (fun _ => rfl) al0 ?_
    refine w_sg k290 5 (pc' := 48) (ls' := [(0, aR 48 0), (1, aI v7)]) (st' := [aI (gI Y5.1 48 0 33), aR 63 0, aR 48 0]) (cs' := []) (fun _ => rfl) al0 ?_
    obtain ⟨v10, Y8, hv9, h⟩ := bd_some h
    refine w_cV1 k290 (sn_284_48_63 _ _ _ hv9) rfl (st := []) rfl ?_ (fun _ _ q => q.elim)
    refine w_sg k290 1 (pc' := 52) (ls' := [(0, aR 48 0), (1, aI v7), (2, aI v10)]) (st' := []) (cs' := []) (fun _ => rfl) al0 ?_
    refine w_sg k290 3 (pc' := 56) (ls' := [(0, aR 48 0), (1, aI v7), (2, aI v10)]) (st' := [aI (nI 20), aI (nI 1), aR 48 0]) (cs' := []) (fun _ => rfl) al0 ?_
    obtain ⟨v13, Y11, hv12, h⟩ := bd_some h
    refine w_cV1 k290 (sn_281 _ _ _ _ hv12) rfl (st := []) rfl ?_ (fun _ _ q => q.elim)
    refine w_sg k290 1 (pc' := 60) (ls' := [(0, aR 48 0), (1, aI v7), (2, aI v10), (3, aI v13)]) (st' := []) (cs' := []) (fun _ => rfl) al0 ?_
    refine w_sg k290 1 (pc' := 61) (ls' := [(0, aR 48 0), (1, aI v7), (2, aI v10), (3, aI v13)]) (st' := [aR 48 0]) (cs' := []) (fun _ => rfl) al0 ?_
    obtain ⟨v16, Y14, hv15, h⟩ := bd_some h
    refine w_cV1 k290 (sn_276  _ _ hv15) rfl (st := []) rfl ?_ (fun _ _ q => q.elim)
    refine w_if_ne k290 rfl (fun c => ?_) (fun c => ?_)
    · replace h := if_f c h
      refine w_sg k290 8 (pc' := 81) (ls' := [(0, aR 48 0), (1, aI v7), (2, aI v10), (3, aI v13)]) (st' := [aI ((nI 118) + ((nI 6) * (gI Y14.1 53 0 9)))]) (cs' := [vp_in (nI 9) 718]) (fun _ => rfl) (al1 (vin rfl)) ?_
      refine w_sg k290 1 (pc' := 83) (ls' := [(0, aR 48 0), (1, aI v7), (2, aI v10), (3, aI v13), (4, aI ((nI 118) + ((nI 6) * (gI Y14.1 53 0 9))))]) (st' := []) (cs' := []) (fun _ => rfl) al0 ?_
      refine w_sg k290 8 (pc' := 97) (ls' := [(0, aR 48 0), (1, aI v7), (2, aI v10), (3, aI v13), (4, aI ((nI 118) + ((nI 6) * (gI Y14.1 53 0 9))))]) (st' := [aI (nI 6), aR 53 0, aI (((nI 118) + ((nI 6) * (gI Y14.1 53 0 9))) + (nI 0)), aR 53 0]) (cs' := []) (fun _ => rfl) al0 ?_
      obtain ⟨hc17, h⟩ := ck_some h
      refine w_sw k290 2 (Z := (sI Y14 53 0 (ix (((nI 118) + ((nI 6) * (gI Y14.1 53 0 9))) + (nI 0))) (gI Y14.1 53 0 6))) (pc' := 99) (ls' := [(0, aR 48 0), (1, aI v7), (2, aI v10), (3, aI v13), (4, aI ((nI 118) + ((nI 6) * (gI Y14.1 53 0 9))))]) (st' := []) (cs' := [vp_in (nI 6) 718, vp_in (((nI 118) + ((nI 6) * (gI Y14.1 53 0 9))) + (nI 0)) 718, allw 53 0]) (fun _ => rfl) rfl (al2 (vin rfl) (al2 (vin hc17) (al1 rfl))) ?_
      replace h := wr_some h
      generalize (sI Y14 53 0 (ix (((nI 118) + ((nI 6) * (gI Y14.1 53 0 9))) + (nI 0))) (gI Y14.1 53 0 6)) = Y18 at h ⊢
      obtain ⟨hc19, h⟩ := ck_some h
      refine w_sw k290 7 (Z := (sI Y18 53 0 (ix (((nI 118) + ((nI 6) * (gI Y14.1 53 0 9))) + (nI 1))) v7)) (pc' := 109) (ls' := [(0, aR 48 0), (1, aI v7), (2, aI v10), (3, aI v13), (4, aI ((nI 118) + ((nI 6) * (gI Y14.1 53 0 9))))]) (st' := []) (cs' := [vp_in (((nI 118) + ((nI 6) * (gI Y14.1 53 0 9))) + (nI 1)) 718, allw 53 0]) (fun _ => rfl) rfl (al2 (vin hc19) (al1 rfl)) ?_
      replace h := wr_some h
      generalize (sI Y18 53 0 (ix (((nI 118) + ((nI 6) * (gI Y14.1 53 0 9))) + (nI 1))) v7) = Y20 at h ⊢
      obtain ⟨hc21, h⟩ := ck_some h
      refine w_sw k290 7 (Z := (sI Y20 53 0 (ix (((nI 118) + ((nI 6) * (gI Y14.1 53 0 9))) + (nI 2))) v10)) (pc' := 119) (ls' := [(0, aR 48 0), (1, aI v7), (2, aI v10), (3, aI v13), (4, aI ((nI 118) + ((nI 6) * (gI Y14.1 53 0 9))))]) (st' := []) (cs' := [vp_in (((nI 118) + ((nI 6) * (gI Y14.1 53 0 9))) + (nI 2)) 718, allw 53 0]) (fun _ => rfl) rfl (al2 (vin hc21) (al1 rfl)) ?_
      replace h := wr_some h
      generalize (sI Y20 53 0 (ix (((nI 118) + ((nI 6) * (gI Y14.1 53 0 9))) + (nI 2))) v10) = Y22 at h ⊢
      obtain ⟨hc23, h⟩ := ck_some h
      refine w_sw k290 7 (Z := (sI Y22 53 0 (ix (((nI 118) + ((nI 6) * (gI Y14.1 53 0 9))) + (nI 3))) v13)) (pc' := 129) (ls' := [(0, aR 48 0), (1, aI v7), (2, aI v10), (3, aI v13), (4, aI ((nI 118) + ((nI 6) * (gI Y14.1 53 0 9))))]) (st' := []) (cs' := [vp_in (((nI 118) + ((nI 6) * (gI Y14.1 53 0 9))) + (nI 3)) 718, allw 53 0]) (fun _ => rfl) rfl (al2 (vin hc23) (al1 rfl)) ?_
      replace h := wr_some h
      generalize (sI Y22 53 0 (ix (((nI 118) + ((nI 6) * (gI Y14.1 53 0 9))) + (nI 3))) v13) = Y24 at h ⊢
      obtain ⟨hc25, h⟩ := ck_some h
      refine w_sw k290 7 (Z := (sI Y24 53 0 (ix (((nI 118) + ((nI 6) * (gI Y14.1 53 0 9))) + (nI 4))) v13)) (pc' := 139) (ls' := [(0, aR 48 0), (1, aI v7), (2, aI v10), (3, aI v13), (4, aI ((nI 118) + ((nI 6) * (gI Y14.1 53 0 9))))]) (st' := []) (cs' := [vp_in (((nI 118) + ((nI 6) * (gI Y14.1 53 0 9))) + (nI 4)) 718, allw 53 0]) (fun _ => rfl) rfl (al2 (vin hc25) (al1 rfl)) ?_
      replace h := wr_some h
      generalize (sI Y24 53 0 (ix (((nI 118) + ((nI 6) * (gI Y14.1 53 0 9))) + (nI 4))) v13) = Y26 at h ⊢
      refine w_sg k290 8 (pc' := 153) (ls' := [(0, aR 48 0), (1, aI v7), (2, aI v10), (3, aI v13), (4, aI ((nI 118) + ((nI 6) * (gI Y14.1 53 0 9))))]) (st' := [aI (nI 1), aI (gI Y26.1 53 0 9), aI (nI 9), aR 53 0]) (cs' := [vp_in (nI 9) 718]) (fun _ => rfl) (al1 (vin rfl)) ?_
      refine w_sw k290 2 (Z := (sI Y26 53 0 9 ((gI Y26.1 53 0 9) + (nI 1)))) (pc' := 155) (ls' := [(0, aR 48 0), (1, aI v7), (2, aI v10), (3, aI v13), (4, aI ((nI 118) + ((nI 6) * (gI Y14.1 53 0 9))))]) (st' := []) (cs' := [vp_in (nI 9) 718, allw 53 0]) (fun _ => rfl) rfl (al2 (vin rfl) (al1 rfl)) ?_
      replace h := wr_some h
      generalize (sI Y26 53 0 9 ((gI Y26.1 53 0 9) + (nI 1))) = Y27 at h ⊢
      refine w_sg k290 8 (pc' := 169) (ls' := [(0, aR 48 0), (1, aI v7), (2, aI v10), (3, aI v13), (4, aI ((nI 118) + ((nI 6) * (gI Y14.1 53 0 9))))]) (st' := [aI (nI 1), aI (gI Y27.1 53 0 6), aI (nI 6), aR 53 0]) (cs' := [vp_in (nI 6) 718]) (fun _ => rfl) (al1 (vin rfl)) ?_
      refine w_sw k290 2 (Z := (sI Y27 53 0 6 ((gI Y27.1 53 0 6) + (nI 1)))) (pc' := 171) (ls' := [(0, aR 48 0), (1, aI v7), (2, aI v10), (3, aI v13), (4, aI ((nI 118) + ((nI 6) * (gI Y14.1 53 0 9))))]) (st' := []) (cs' := [vp_in (nI 6) 718, allw 53 0]) (fun _ => rfl) rfl (al2 (vin rfl) (al1 rfl)) ?_
      replace h := wr_some h
      generalize (sI Y27 53 0 6 ((gI Y27.1 53 0 6) + (nI 1))) = Y28 at h ⊢
      obtain rfl := Option.some.inj h
      exact w_return k290 ⟨rfl, rfl⟩
    · replace h := if_t c h
      obtain rfl := Option.some.inj h
      exact w_return k290 ⟨rfl, rfl⟩
  refine w_sg k290 6 (pc' := 10) (ls' := [(0, aR 48 0)]) (st' := [aI (nI 40), aI (gI Y.1 53 0 9), aR 48 0]) (cs' := [vp_in (nI 9) 718]) (fun _ => rfl) (al1 (vin rfl)) ?_
  refine w_icmp_ge k290 rfl (fun c => ?_) (fun c => ?_)
  · replace h := if_t c h
    refine w_sg k290 1 (pc' := 18) (ls' := [(0, aR 48 0)]) (st' := [aI (nI 0), aR 48 0]) (cs' := []) (fun _ => rfl) al0 ?_
    refine w_ls [(0, aR 48 0)] (lq_c rfl lq_n) ?_
    exact J18_0 _ _ h
  · replace h := if_f c h
    refine w_sg k290 2 (pc' := 18) (ls' := [(0, aR 48 0)]) (st' := [aI (nI 1), aR 48 0]) (cs' := []) (fun _ => rfl) al0 ?_
    refine w_ls [(0, aR 48 0)] (lq_c rfl lq_n) ?_
    exact J18_0 _ _ h
set_option maxRecDepth 20000 in
set_option maxHeartbeats 4000000 in
/-- BallotBusModel.fresh -/
theorem sn_283_48_64 (a2 : Int32) {Y : Sm} (v : Int64) (Z : Sm) (h : fn_283_48_64 a2 Y = some (v, Z)) : Mt 8 0 283 [aR 48 0, aR 64 0, aI a2] Y (Rt (some (aJ v)) Z) nX := by
  refine Mt_of [(0, aR 48 0), (1, aR 64 0), (2, aI a2)] ?_
  generalize ho : (v, Z) = o at h
  have hv9 : v = o.1 := congrArg Prod.fst ho
  have hZ9 : Z = o.2 := congrArg Prod.snd ho
  clear ho
  subst hv9 hZ9
  unfold fn_283_48_64 at h
  have J35_0 : ∀ (t0 : Int32) (Y : Sm), fn_283_48_64_J35 t0 Y = some o → Wm 8 0 283 0 35 [(0, aR 48 0)] [aI t0, aR 48 0] Y (Rt (some (aJ o.1)) o.2) nX := by
    intro t0 Y h
    unfold fn_283_48_64_J35 at h
    refine w_sg k283 1 (pc' := 36) (ls' := [(0, aR 48 0)]) (st' := [aI (nI 3), aI t0, aR 48 0]) (cs' := []) (fun _ => rfl) al0 ?_
    obtain ⟨_, Y14, hv15, h⟩ := bd_some h
    refine w_cV0 k283 (sn_277 _ _ _ _ hv15) rfl (st := []) rfl ?_ (fun _ _ q => q.elim)
    refine w_sg k283 3 (pc' := 44) (ls' := [(0, aR 48 0), (3, aJ (gJ Y14.1 48 0 30))]) (st' := []) (cs' := []) (fun _ => rfl) al0 ?_
    refine w_sg k283 1 (pc' := 45) (ls' := [(0, aR 48 0), (3, aJ (gJ Y14.1 48 0 30))]) (st' := [aR 48 0]) (cs' := []) (fun _ => rfl) al0 ?_
    obtain ⟨_, Y16, hv17, h⟩ := bd_some h
    refine w_cV0 k283 (sn_278  _ _ hv17) rfl (st := []) rfl ?_ (fun _ _ q => q.elim)
    refine w_sg k283 1 (pc' := 49) (ls' := [(0, aR 48 0), (3, aJ (gJ Y14.1 48 0 30))]) (st' := [aJ (gJ Y14.1 48 0 30)]) (cs' := []) (fun _ => rfl) al0 ?_
    obtain rfl := Option.some.inj h
    exact w_lreturn k283 ⟨rfl, rfl⟩
  refine w_sg k283 2 (pc' := 2) (ls' := [(0, aR 48 0), (1, aR 64 0), (2, aI a2)]) (st' := [aR 48 0, aR 48 0]) (cs' := []) (fun _ => rfl) al0 ?_
  obtain ⟨v3, Y1, hv2, h⟩ := bd_some h
  refine w_cV1 k283 (sn_280  _ _ hv2) rfl (st := [aR 48 0]) rfl ?_ (fun _ _ q => q.elim)
  refine w_sg k283 1 (pc' := 6) (ls' := [(0, aR 48 0), (1, aR 64 0), (2, aI a2)]) (st' := [aI (nI 1), aI v3, aR 48 0]) (cs' := []) (fun _ => rfl) al0 ?_
  obtain ⟨_, Y4, hv5, h⟩ := bd_some h
  refine w_cV0 k283 (sn_277 _ _ _ _ hv5) rfl (st := []) rfl ?_ (fun _ _ q => q.elim)
  refine w_sg k283 1 (pc' := 10) (ls' := [(0, aR 48 0), (1, aR 64 0), (2, aI a2)]) (st' := [aR 48 0]) (cs' := []) (fun _ => rfl) al0 ?_
  obtain ⟨v8, Y6, hv7, h⟩ := bd_some h
  refine w_cV1 k283 (sn_276  _ _ hv7) rfl (st := []) rfl ?_ (fun _ _ q => q.elim)
  refine w_if_eq k283 rfl (fun c => ?_) (fun c => ?_)
  · replace h := if_t c h
    refine w_sg k283 3 (pc' := 44) (ls' := [(0, aR 48 0), (1, aR 64 0), (2, aI a2), (3, aJ (gJ Y6.1 48 0 30))]) (st' := []) (cs' := []) (fun _ => rfl) al0 ?_
    refine w_sg k283 1 (pc' := 45) (ls' := [(0, aR 48 0), (1, aR 64 0), (2, aI a2), (3, aJ (gJ Y6.1 48 0 30))]) (st' := [aR 48 0]) (cs' := []) (fun _ => rfl) al0 ?_
    obtain ⟨_, Y9, hv10, h⟩ := bd_some h
    refine w_cV0 k283 (sn_278  _ _ hv10) rfl (st := []) rfl ?_ (fun _ _ q => q.elim)
    refine w_sg k283 1 (pc' := 49) (ls' := [(0, aR 48 0), (1, aR 64 0), (2, aI a2), (3, aJ (gJ Y6.1 48 0 30))]) (st' := [aJ (gJ Y6.1 48 0 30)]) (cs' := []) (fun _ => rfl) al0 ?_
    obtain rfl := Option.some.inj h
    exact w_lreturn k283 ⟨rfl, rfl⟩
  · replace h := if_f c h
    refine w_sg k283 5 (pc' := 23) (ls' := [(0, aR 48 0), (1, aR 64 0), (2, aI a2)]) (st' := [aJ (gJ Y6.1 48 0 30), aI a2, aR 64 0, aR 48 0]) (cs' := []) (fun _ => rfl) al0 ?_
    obtain ⟨v13, Y11, hv12, h⟩ := bd_some h
    refine w_cS1 k283 (sn_282_64 _ _ _ _ hv12) rfl (st := [aR 48 0]) rfl ?_ (fun _ _ q => q.elim)
    refine w_sg k283 1 (pc' := 27) (ls' := [(0, aR 48 0), (1, aR 64 0), (2, aI a2)]) (st' := [aI (-1 : Int32), aI v13, aR 48 0]) (cs' := []) (fun _ => rfl) al0 ?_
    refine w_icmp_ne k283 rfl (fun c => ?_) (fun c => ?_)
    · replace h := if_f c h
      refine w_sg k283 1 (pc' := 35) (ls' := [(0, aR 48 0), (1, aR 64 0), (2, aI a2)]) (st' := [aI (nI 0), aR 48 0]) (cs' := []) (fun _ => rfl) al0 ?_
      refine w_ls [(0, aR 48 0)] (lq_c rfl lq_n) ?_
      exact J35_0 _ _ h
    · replace h := if_t c h
      refine w_sg k283 2 (pc' := 35) (ls' := [(0, aR 48 0), (1, aR 64 0), (2, aI a2)]) (st' := [aI (nI 1), aR 48 0]) (cs' := []) (fun _ => rfl) al0 ?_
      refine w_ls [(0, aR 48 0)] (lq_c rfl lq_n) ?_
      exact J35_0 _ _ h
set_option maxRecDepth 20000 in
set_option maxHeartbeats 4000000 in
/-- BallotBusModel.readsAsker -/
theorem sn_286 {Y : Sm} (v : Unit) (Z : Sm) (h : fn_286 Y = some (v, Z)) : Mt 9 0 286 [aR 48 0] Y (Rt none Z) nX := by
  refine Mt_of [(0, aR 48 0)] ?_
  generalize ho : (v, Z) = o at h
  have hv9 : v = o.1 := congrArg Prod.fst ho
  have hZ9 : Z = o.2 := congrArg Prod.snd ho
  clear ho
  subst hv9 hZ9
  unfold fn_286 at h
  have J15_0 : ∀ (t0 : Int32) (Y : Sm), fn_286_J15 t0 Y = some o → Wm 9 0 286 0 15 [(0, aR 48 0)] [aI t0, aR 48 0] Y (Rt none o.2) nX := by
    intro t0 Y h
    unfold fn_286_J15 at h
    refine w_sg k286 1 (pc' := 16) (ls' := [(0, aR 48 0)]) (st' := [aI (nI 4), aI t0, aR 48 0]) (cs' := []) (fun _ => rfl) al0 ?_
    obtain ⟨_, Y1, hv2, h⟩ := bd_some h
    refine w_cV0 k286 (sn_277 _ _ _ _ hv2) rfl (st := []) rfl ?_ (fun _ _ q => q.elim)
    refine w_sg k286 1 (pc' := 20) (ls' := [(0, aR 48 0)]) (st' := [aR 48 0]) (cs' := []) (fun _ => rfl) al0 ?_
    obtain ⟨_, Y3, hv4, h⟩ := bd_some h
    refine w_cV0 k286 (sn_278  _ _ hv4) rfl (st := []) rfl ?_ (fun _ _ q => q.elim)
    refine w_sg k286 1 (pc' := 24) (ls' := [(0, aR 48 0)]) (st' := [aR 48 0]) (cs' := []) (fun _ => rfl) al0 ?_
    obtain ⟨v7, Y5, hv6, h⟩ := bd_some h
    refine w_cV1 k286 (sn_276  _ _ hv6) rfl (st := []) rfl ?_ (fun _ _ q => q.elim)
    refine w_if_ne k286 rfl (fun c => ?_) (fun c => ?_)
    · replace h := if_f c h
      refine w_sg k286 3 (pc' := 36) (ls' := [(0, aR 48 0), (1, aI (gI Y5.1 48 0 34))]) (st' := []) (cs' := []) (fun _ => rfl) al0 ?_
      refine w_sg k286 7 (pc' := 47) (ls' := [(0, aR 48 0), (1, aI (gI Y5.1 48 0 34))]) (st' := [aI (gI Y5.1 48 0 34), aR 64 0, aR 48 0, aI (gI Y5.1 48 0 34), aR 64 0]) (cs' := []) (fun _ => rfl) al0 ?_
      obtain ⟨v10, Y8, hv9, h⟩ := bd_some h
      refine w_cV1 k286 (sn_283_48_64 _ _ _ hv9) rfl (st := [aI (gI Y5.1 48 0 34), aR 64 0]) rfl ?_ (fun _ _ q => q.elim)
      obtain ⟨hc11, h⟩ := ck_some h
      refine w_sw k286 1 (Z := (sJ Y8 64 0 (ix (gI Y5.1 48 0 34)) v10)) (pc' := 51) (ls' := [(0, aR 48 0), (1, aI (gI Y5.1 48 0 34))]) (st' := []) (cs' := [vp_in (gI Y5.1 48 0 34) 8, allw 64 0]) (fun _ => rfl) rfl (al2 (vin hc11) (al1 rfl)) ?_
      replace h := wr_some h
      generalize (sJ Y8 64 0 (ix (gI Y5.1 48 0 34)) v10) = Y12 at h ⊢
      refine w_sg k286 3 (pc' := 54) (ls' := [(0, aR 48 0), (1, aI (gI Y5.1 48 0 34))]) (st' := [aI (nI 5), aR 48 0, aR 48 0]) (cs' := []) (fun _ => rfl) al0 ?_
      obtain ⟨v15, Y13, hv14, h⟩ := bd_some h
      refine w_cV1 k286 (sn_279 _ _ _ hv14) rfl (st := [aR 48 0]) rfl ?_ (fun _ _ q => q.elim)
      refine w_sg k286 1 (pc' := 58) (ls' := [(0, aR 48 0), (1, aI (gI Y5.1 48 0 34))]) (st' := [aI (nI 1), aI v15, aR 48 0]) (cs' := []) (fun _ => rfl) al0 ?_
      obtain ⟨_, Y16, hv17, h⟩ := bd_some h
      refine w_cV0 k286 (sn_277 _ _ _ _ hv17) rfl (st := []) rfl ?_ (fun _ _ q => q.elim)
      refine w_sg k286 1 (pc' := 62) (ls' := [(0, aR 48 0), (1, aI (gI Y5.1 48 0 34))]) (st' := [aR 48 0]) (cs' := []) (fun _ => rfl) al0 ?_
      obtain ⟨_, Y18, hv19, h⟩ := bd_some h
      refine w_cV0 k286 (sn_278  _ _ hv19) rfl (st := []) rfl ?_ (fun _ _ q => q.elim)
      refine w_sg k286 8 (pc' := 78) (ls' := [(0, aR 48 0), (1, aI (gI Y5.1 48 0 34))]) (st' := [aI (nI 999), aI (nI 0), aR 48 0, aI ((nI 20) + (gI Y5.1 48 0 34)), aR 53 0]) (cs' := []) (fun _ => rfl) al0 ?_
      obtain ⟨v22, Y20, hv21, h⟩ := bd_some h
      refine w_cV1 k286 (sn_281 _ _ _ _ hv21) rfl (st := [aI ((nI 20) + (gI Y5.1 48 0 34)), aR 53 0]) rfl ?_ (fun _ _ q => q.elim)
      obtain ⟨hc23, h⟩ := ck_some h
      refine w_sw k286 1 (Z := (sI Y20 53 0 (ix ((nI 20) + (gI Y5.1 48 0 34))) v22)) (pc' := 82) (ls' := [(0, aR 48 0), (1, aI (gI Y5.1 48 0 34))]) (st' := []) (cs' := [vp_in ((nI 20) + (gI Y5.1 48 0 34)) 718, allw 53 0]) (fun _ => rfl) rfl (al2 (vin hc23) (al1 rfl)) ?_
      replace h := wr_some h
      generalize (sI Y20 53 0 (ix ((nI 20) + (gI Y5.1 48 0 34))) v22) = Y24 at h ⊢
      refine w_sw k286 5 (Z := (sI Y24 62 0 (ix (gI Y5.1 48 0 34)) (nI 1))) (pc' := 89) (ls' := [(0, aR 48 0), (1, aI (gI Y5.1 48 0 34))]) (st' := []) (cs' := [vp_in (gI Y5.1 48 0 34) 8, allw 62 0]) (fun _ => rfl) rfl (al2 (vin hc11) (al1 rfl)) ?_
      replace h := wr_some h
      generalize (sI Y24 62 0 (ix (gI Y5.1 48 0 34)) (nI 1)) = Y25 at h ⊢
      refine w_sg k286 2 (pc' := 92) (ls' := [(0, aR 48 0), (1, aI (gI Y5.1 48 0 34))]) (st' := [aI (nI 6), aR 48 0]) (cs' := []) (fun _ => rfl) al0 ?_
      obtain ⟨v28, Y26, hv27, h⟩ := bd_some h
      refine w_cV1 k286 (sn_279 _ _ _ hv27) rfl (st := []) rfl ?_ (fun _ _ q => q.elim)
      refine w_if_eq k286 rfl (fun c => ?_) (fun c => ?_)
      · replace h := if_t c h
        refine w_sw k286 5 (Z := (sI Y26 48 0 34 ((gI Y5.1 48 0 34) + (nI 1)))) (pc' := 122) (ls' := [(0, aR 48 0), (1, aI (gI Y5.1 48 0 34))]) (st' := []) (cs' := [allw 48 0]) (fun _ => rfl) rfl (al1 rfl) ?_
        replace h := wr_some h
        generalize (sI Y26 48 0 34 ((gI Y5.1 48 0 34) + (nI 1))) = Y29 at h ⊢
        obtain rfl := Option.some.inj h
        exact w_return k286 ⟨rfl, rfl⟩
      · replace h := if_f c h
        refine w_sg k286 1 (pc' := 99) (ls' := [(0, aR 48 0), (1, aI (gI Y5.1 48 0 34))]) (st' := [aR 48 0]) (cs' := []) (fun _ => rfl) al0 ?_
        obtain ⟨_, Y30, hv31, h⟩ := bd_some h
        refine w_cV0 k286 (sn_278  _ _ hv31) rfl (st := []) rfl ?_ (fun _ _ q => q.elim)
        refine w_sg k286 6 (pc' := 111) (ls' := [(0, aR 48 0), (1, aI (gI Y5.1 48 0 34))]) (st' := [aI (nI 9), aI (nI 1), aR 48 0, aI (gI Y5.1 48 0 34), aR 62 0]) (cs' := []) (fun _ => rfl) al0 ?_
        obtain ⟨v34, Y32, hv33, h⟩ := bd_some h
        refine w_cV1 k286 (sn_281 _ _ _ _ hv33) rfl (st := [aI (gI Y5.1 48 0 34), aR 62 0]) rfl ?_ (fun _ _ q => q.elim)
        refine w_sw k286 1 (Z := (sI Y32 62 0 (ix (gI Y5.1 48 0 34)) v34)) (pc' := 115) (ls' := [(0, aR 48 0), (1, aI (gI Y5.1 48 0 34))]) (st' := []) (cs' := [vp_in (gI Y5.1 48 0 34) 8, allw 62 0]) (fun _ => rfl) rfl (al2 (vin hc11) (al1 rfl)) ?_
        replace h := wr_some h
        generalize (sI Y32 62 0 (ix (gI Y5.1 48 0 34)) v34) = Y35 at h ⊢
        refine w_sw k286 5 (Z := (sI Y35 48 0 34 ((gI Y5.1 48 0 34) + (nI 1)))) (pc' := 122) (ls' := [(0, aR 48 0), (1, aI (gI Y5.1 48 0 34))]) (st' := []) (cs' := [allw 48 0]) (fun _ => rfl) rfl (al1 rfl) ?_
        replace h := wr_some h
        generalize (sI Y35 48 0 34 ((gI Y5.1 48 0 34) + (nI 1))) = Y36 at h ⊢
        obtain rfl := Option.some.inj h
        exact w_return k286 ⟨rfl, rfl⟩
    · replace h := if_t c h
      obtain rfl := Option.some.inj h
      exact w_return k286 ⟨rfl, rfl⟩
  refine w_sg k286 4 (pc' := 7) (ls' := [(0, aR 48 0)]) (st' := [aI (nI 8), aI (gI Y.1 48 0 34), aR 48 0]) (cs' := []) (fun _ => rfl) al0 ?_
  refine w_icmp_ge k286 rfl (fun c => ?_) (fun c => ?_)
  · replace h := if_t c h
    refine w_sg k286 1 (pc' := 15) (ls' := [(0, aR 48 0)]) (st' := [aI (nI 0), aR 48 0]) (cs' := []) (fun _ => rfl) al0 ?_
    refine w_ls [(0, aR 48 0)] (lq_c rfl lq_n) ?_
    exact J15_0 _ _ h
  · replace h := if_f c h
    refine w_sg k286 2 (pc' := 15) (ls' := [(0, aR 48 0)]) (st' := [aI (nI 1), aR 48 0]) (cs' := []) (fun _ => rfl) al0 ?_
    refine w_ls [(0, aR 48 0)] (lq_c rfl lq_n) ?_
    exact J15_0 _ _ h
set_option maxRecDepth 20000 in
set_option maxHeartbeats 4000000 in
/-- BallotBusModel.fresh -/
theorem sn_283_48_63 (a2 : Int32) {Y : Sm} (v : Int64) (Z : Sm) (h : fn_283_48_63 a2 Y = some (v, Z)) : Mt 8 0 283 [aR 48 0, aR 63 0, aI a2] Y (Rt (some (aJ v)) Z) nX := by
  refine Mt_of [(0, aR 48 0), (1, aR 63 0), (2, aI a2)] ?_
  generalize ho : (v, Z) = o at h
  have hv9 : v = o.1 := congrArg Prod.fst ho
  have hZ9 : Z = o.2 := congrArg Prod.snd ho
  clear ho
  subst hv9 hZ9
  unfold fn_283_48_63 at h
  have J35_0 : ∀ (t0 : Int32) (Y : Sm), fn_283_48_63_J35 t0 Y = some o → Wm 8 0 283 0 35 [(0, aR 48 0)] [aI t0, aR 48 0] Y (Rt (some (aJ o.1)) o.2) nX := by
    intro t0 Y h
    unfold fn_283_48_63_J35 at h
    refine w_sg k283 1 (pc' := 36) (ls' := [(0, aR 48 0)]) (st' := [aI (nI 3), aI t0, aR 48 0]) (cs' := []) (fun _ => rfl) al0 ?_
    obtain ⟨_, Y14, hv15, h⟩ := bd_some h
    refine w_cV0 k283 (sn_277 _ _ _ _ hv15) rfl (st := []) rfl ?_ (fun _ _ q => q.elim)
    refine w_sg k283 3 (pc' := 44) (ls' := [(0, aR 48 0), (3, aJ (gJ Y14.1 48 0 30))]) (st' := []) (cs' := []) (fun _ => rfl) al0 ?_
    refine w_sg k283 1 (pc' := 45) (ls' := [(0, aR 48 0), (3, aJ (gJ Y14.1 48 0 30))]) (st' := [aR 48 0]) (cs' := []) (fun _ => rfl) al0 ?_
    obtain ⟨_, Y16, hv17, h⟩ := bd_some h
    refine w_cV0 k283 (sn_278  _ _ hv17) rfl (st := []) rfl ?_ (fun _ _ q => q.elim)
    refine w_sg k283 1 (pc' := 49) (ls' := [(0, aR 48 0), (3, aJ (gJ Y14.1 48 0 30))]) (st' := [aJ (gJ Y14.1 48 0 30)]) (cs' := []) (fun _ => rfl) al0 ?_
    obtain rfl := Option.some.inj h
    exact w_lreturn k283 ⟨rfl, rfl⟩
  refine w_sg k283 2 (pc' := 2) (ls' := [(0, aR 48 0), (1, aR 63 0), (2, aI a2)]) (st' := [aR 48 0, aR 48 0]) (cs' := []) (fun _ => rfl) al0 ?_
  obtain ⟨v3, Y1, hv2, h⟩ := bd_some h
  refine w_cV1 k283 (sn_280  _ _ hv2) rfl (st := [aR 48 0]) rfl ?_ (fun _ _ q => q.elim)
  refine w_sg k283 1 (pc' := 6) (ls' := [(0, aR 48 0), (1, aR 63 0), (2, aI a2)]) (st' := [aI (nI 1), aI v3, aR 48 0]) (cs' := []) (fun _ => rfl) al0 ?_
  obtain ⟨_, Y4, hv5, h⟩ := bd_some h
  refine w_cV0 k283 (sn_277 _ _ _ _ hv5) rfl (st := []) rfl ?_ (fun _ _ q => q.elim)
  refine w_sg k283 1 (pc' := 10) (ls' := [(0, aR 48 0), (1, aR 63 0), (2, aI a2)]) (st' := [aR 48 0]) (cs' := []) (fun _ => rfl) al0 ?_
  obtain ⟨v8, Y6, hv7, h⟩ := bd_some h
  refine w_cV1 k283 (sn_276  _ _ hv7) rfl (st := []) rfl ?_ (fun _ _ q => q.elim)
  refine w_if_eq k283 rfl (fun c => ?_) (fun c => ?_)
  · replace h := if_t c h
    refine w_sg k283 3 (pc' := 44) (ls' := [(0, aR 48 0), (1, aR 63 0), (2, aI a2), (3, aJ (gJ Y6.1 48 0 30))]) (st' := []) (cs' := []) (fun _ => rfl) al0 ?_
    refine w_sg k283 1 (pc' := 45) (ls' := [(0, aR 48 0), (1, aR 63 0), (2, aI a2), (3, aJ (gJ Y6.1 48 0 30))]) (st' := [aR 48 0]) (cs' := []) (fun _ => rfl) al0 ?_
    obtain ⟨_, Y9, hv10, h⟩ := bd_some h
    refine w_cV0 k283 (sn_278  _ _ hv10) rfl (st := []) rfl ?_ (fun _ _ q => q.elim)
    refine w_sg k283 1 (pc' := 49) (ls' := [(0, aR 48 0), (1, aR 63 0), (2, aI a2), (3, aJ (gJ Y6.1 48 0 30))]) (st' := [aJ (gJ Y6.1 48 0 30)]) (cs' := []) (fun _ => rfl) al0 ?_
    obtain rfl := Option.some.inj h
    exact w_lreturn k283 ⟨rfl, rfl⟩
  · replace h := if_f c h
    refine w_sg k283 5 (pc' := 23) (ls' := [(0, aR 48 0), (1, aR 63 0), (2, aI a2)]) (st' := [aJ (gJ Y6.1 48 0 30), aI a2, aR 63 0, aR 48 0]) (cs' := []) (fun _ => rfl) al0 ?_
    obtain ⟨v13, Y11, hv12, h⟩ := bd_some h
    refine w_cS1 k283 (sn_282_63 _ _ _ _ hv12) rfl (st := [aR 48 0]) rfl ?_ (fun _ _ q => q.elim)
    refine w_sg k283 1 (pc' := 27) (ls' := [(0, aR 48 0), (1, aR 63 0), (2, aI a2)]) (st' := [aI (-1 : Int32), aI v13, aR 48 0]) (cs' := []) (fun _ => rfl) al0 ?_
    refine w_icmp_ne k283 rfl (fun c => ?_) (fun c => ?_)
    · replace h := if_f c h
      refine w_sg k283 1 (pc' := 35) (ls' := [(0, aR 48 0), (1, aR 63 0), (2, aI a2)]) (st' := [aI (nI 0), aR 48 0]) (cs' := []) (fun _ => rfl) al0 ?_
      refine w_ls [(0, aR 48 0)] (lq_c rfl lq_n) ?_
      exact J35_0 _ _ h
    · replace h := if_t c h
      refine w_sg k283 2 (pc' := 35) (ls' := [(0, aR 48 0), (1, aR 63 0), (2, aI a2)]) (st' := [aI (nI 1), aR 48 0]) (cs' := []) (fun _ => rfl) al0 ?_
      refine w_ls [(0, aR 48 0)] (lq_c rfl lq_n) ?_
      exact J35_0 _ _ h
set_option maxRecDepth 20000 in
set_option maxHeartbeats 4000000 in
/-- BallotBusModel.readsClass -/
theorem sn_285 {Y : Sm} (v : Unit) (Z : Sm) (h : fn_285 Y = some (v, Z)) : Mt 9 0 285 [aR 48 0] Y (Rt none Z) nX := by
  refine Mt_of [(0, aR 48 0)] ?_
  generalize ho : (v, Z) = o at h
  have hv9 : v = o.1 := congrArg Prod.fst ho
  have hZ9 : Z = o.2 := congrArg Prod.snd ho
  clear ho
  subst hv9 hZ9
  unfold fn_285 at h
  have J14_0 : ∀ (t0 : Int32) (Y : Sm), fn_285_J14 t0 Y = some o → Wm 9 0 285 0 14 [(0, aR 48 0)] [aI t0, aR 48 0] Y (Rt none o.2) nX := by
    intro t0 Y h
    unfold fn_285_J14 at h
    refine w_sg k285 1 (pc' := 15) (ls' := [(0, aR 48 0)]) (st' := [aI (nI 4), aI t0, aR 48 0]) (cs' := []) (fun _ => rfl) al0 ?_
    obtain ⟨_, Y1, hv2, h⟩ := bd_some h
    refine w_cV0 k285 (sn_277 _ _ _ _ hv2) rfl (st := []) rfl ?_ (fun _ _ q => q.elim)
    refine w_sg k285 1 (pc' := 19) (ls' := [(0, aR 48 0)]) (st' := [aR 48 0]) (cs' := []) (fun _ => rfl) al0 ?_
    obtain ⟨_, Y3, hv4, h⟩ := bd_some h
    refine w_cV0 k285 (sn_278  _ _ hv4) rfl (st := []) rfl ?_ (fun _ _ q => q.elim)
    refine w_sg k285 1 (pc' := 23) (ls' := [(0, aR 48 0)]) (st' := [aR 48 0]) (cs' := []) (fun _ => rfl) al0 ?_
    obtain ⟨v7, Y5, hv6, h⟩ := bd_some h
    refine w_cV1 k285 (sn_276  _ _ hv6) rfl (st := []) rfl ?_ (fun _ _ q => q.elim)
    refine w_if_ne k285 rfl (fun c => ?_) (fun c => ?_)
    · replace h := if_f c h
      refine w_sg k285 3 (pc' := 35) (ls' := [(0, aR 48 0), (1, aI (gI Y5.1 48 0 33))]) (st' := []) (cs' := []) (fun _ => rfl) al0 ?_
      refine w_sg k285 7 (pc' := 46) (ls' := [(0, aR 48 0), (1, aI (gI Y5.1 48 0 33))]) (st' := [aI (gI Y5.1 48 0 33), aR 63 0, aR 48 0, aI (gI Y5.1 48 0 33), aR 63 0]) (cs' := []) (fun _ => rfl) al0 ?_
      obtain ⟨v10, Y8, hv9, h⟩ := bd_some h
      refine w_cV1 k285 (sn_283_48_63 _ _ _ hv9) rfl (st := [aI (gI Y5.1 48 0 33), aR 63 0]) rfl ?_ (fun _ _ q => q.elim)
      obtain ⟨hc11, h⟩ := ck_some h
      refine w_sw k285 1 (Z := (sJ Y8 63 0 (ix (gI Y5.1 48 0 33)) v10)) (pc' := 50) (ls' := [(0, aR 48 0), (1, aI (gI Y5.1 48 0 33))]) (st' := []) (cs' := [vp_in (gI Y5.1 48 0 33) 5, allw 63 0]) (fun _ => rfl) rfl (al2 (vin hc11) (al1 rfl)) ?_
      replace h := wr_some h
      generalize (sJ Y8 63 0 (ix (gI Y5.1 48 0 33)) v10) = Y12 at h ⊢
      refine w_sg k285 1 (pc' := 51) (ls' := [(0, aR 48 0), (1, aI (gI Y5.1 48 0 33))]) (st' := [aR 48 0]) (cs' := []) (fun _ => rfl) al0 ?_
      obtain ⟨v15, Y13, hv14, h⟩ := bd_some h
      refine w_cV1 k285 (sn_276  _ _ hv14) rfl (st := []) rfl ?_ (fun _ _ q => q.elim)
      refine w_if_eq k285 rfl (fun c => ?_) (fun c => ?_)
      · replace h := if_t c h
        refine w_sw k285 5 (Z := (sI Y13 48 0 33 ((gI Y5.1 48 0 33) + (nI 1)))) (pc' := 104) (ls' := [(0, aR 48 0), (1, aI (gI Y5.1 48 0 33))]) (st' := []) (cs' := [allw 48 0]) (fun _ => rfl) rfl (al1 rfl) ?_
        replace h := wr_some h
        generalize (sI Y13 48 0 33 ((gI Y5.1 48 0 33) + (nI 1))) = Y16 at h ⊢
        obtain rfl := Option.some.inj h
        exact w_return k285 ⟨rfl, rfl⟩
      · replace h := if_f c h
        refine w_sg k285 3 (pc' := 62) (ls' := [(0, aR 48 0), (1, aI (gI Y5.1 48 0 33))]) (st' := [aI (nI 1), aI (gI Y13.1 48 0 27)]) (cs' := []) (fun _ => rfl) al0 ?_
        refine w_icmp_ne k285 rfl (fun c => ?_) (fun c => ?_)
        · replace h := if_f c h
          refine w_sw k285 5 (Z := (sI Y13 48 0 33 ((gI Y5.1 48 0 33) + (nI 1)))) (pc' := 104) (ls' := [(0, aR 48 0), (1, aI (gI Y5.1 48 0 33))]) (st' := []) (cs' := [allw 48 0]) (fun _ => rfl) rfl (al1 rfl) ?_
          replace h := wr_some h
          generalize (sI Y13 48 0 33 ((gI Y5.1 48 0 33) + (nI 1))) = Y17 at h ⊢
          obtain rfl := Option.some.inj h
          exact w_return k285 ⟨rfl, rfl⟩
        · replace h := if_t c h
          refine w_sg k285 5 (pc' := 74) (ls' := [(0, aR 48 0), (1, aI (gI Y5.1 48 0 33))]) (st' := [aJ (((nI 3)).toInt64), aJ (Int64.ofNat 1), aJ ((gI Y13.1 48 0 28).toInt64)]) (cs' := []) (fun _ => rfl) al0 ?_
          obtain ⟨v20, Y18, hv19, h⟩ := bd_some h
          refine w_cS1 k285 (sn_166 _ _ _ _ _ hv19) rfl (st := []) rfl ?_ (fun _ _ q => q.elim)
          refine w_if_eq k285 rfl (fun c => ?_) (fun c => ?_)
          · replace h := if_t c h
            refine w_sw k285 5 (Z := (sI Y18 48 0 33 ((gI Y5.1 48 0 33) + (nI 1)))) (pc' := 104) (ls' := [(0, aR 48 0), (1, aI (gI Y5.1 48 0 33))]) (st' := []) (cs' := [allw 48 0]) (fun _ => rfl) rfl (al1 rfl) ?_
            replace h := wr_some h
            generalize (sI Y18 48 0 33 ((gI Y5.1 48 0 33) + (nI 1))) = Y21 at h ⊢
            obtain rfl := Option.some.inj h
            exact w_return k285 ⟨rfl, rfl⟩
          · replace h := if_f c h
            obtain ⟨hc22, h⟩ := ck_some h
            refine w_sw k285 8 (Z := (sI Y18 53 0 (ix ((nI 15) + (gI Y5.1 48 0 33))) (gI Y18.1 48 0 28))) (pc' := 93) (ls' := [(0, aR 48 0), (1, aI (gI Y5.1 48 0 33))]) (st' := []) (cs' := [vp_in ((nI 15) + (gI Y5.1 48 0 33)) 718, allw 53 0]) (fun _ => rfl) rfl (al2 (vin hc22) (al1 rfl)) ?_
            replace h := wr_some h
            generalize (sI Y18 53 0 (ix ((nI 15) + (gI Y5.1 48 0 33))) (gI Y18.1 48 0 28)) = Y23 at h ⊢
            refine w_sg k285 1 (pc' := 94) (ls' := [(0, aR 48 0), (1, aI (gI Y5.1 48 0 33))]) (st' := [aR 48 0]) (cs' := []) (fun _ => rfl) al0 ?_
            obtain ⟨_, Y24, hv25, h⟩ := bd_some h
            refine w_cV0 k285 (sn_278  _ _ hv25) rfl (st := []) rfl ?_ (fun _ _ q => q.elim)
            refine w_sw k285 5 (Z := (sI Y24 48 0 33 ((gI Y5.1 48 0 33) + (nI 1)))) (pc' := 104) (ls' := [(0, aR 48 0), (1, aI (gI Y5.1 48 0 33))]) (st' := []) (cs' := [allw 48 0]) (fun _ => rfl) rfl (al1 rfl) ?_
            replace h := wr_some h
            generalize (sI Y24 48 0 33 ((gI Y5.1 48 0 33) + (nI 1))) = Y26 at h ⊢
            obtain rfl := Option.some.inj h
            exact w_return k285 ⟨rfl, rfl⟩
    · replace h := if_t c h
      obtain rfl := Option.some.inj h
      exact w_return k285 ⟨rfl, rfl⟩
  refine w_sg k285 4 (pc' := 6) (ls' := [(0, aR 48 0)]) (st' := [aI (nI 5), aI (gI Y.1 48 0 33), aR 48 0]) (cs' := []) (fun _ => rfl) al0 ?_
  refine w_icmp_ge k285 rfl (fun c => ?_) (fun c => ?_)
  · replace h := if_t c h
    refine w_sg k285 1 (pc' := 14) (ls' := [(0, aR 48 0)]) (st' := [aI (nI 0), aR 48 0]) (cs' := []) (fun _ => rfl) al0 ?_
    refine w_ls [(0, aR 48 0)] (lq_c rfl lq_n) ?_
    exact J14_0 _ _ h
  · replace h := if_f c h
    refine w_sg k285 2 (pc' := 14) (ls' := [(0, aR 48 0)]) (st' := [aI (nI 1), aR 48 0]) (cs' := []) (fun _ => rfl) al0 ?_
    refine w_ls [(0, aR 48 0)] (lq_c rfl lq_n) ?_
    exact J14_0 _ _ h
set_option maxRecDepth 20000 in
set_option maxHeartbeats 4000000 in
/-- BallotBusModel.statement -/
theorem sn_291 {Y : Sm} (v : Unit) (Z : Sm) (h : fn_291 Y = some (v, Z)) : Mt 11 0 291 [aR 48 0] Y (Rt none Z) nX := by
  refine Mt_of [(0, aR 48 0)] ?_
  generalize ho : (v, Z) = o at h
  have hv9 : v = o.1 := congrArg Prod.fst ho
  have hZ9 : Z = o.2 := congrArg Prod.snd ho
  clear ho
  subst hv9 hZ9
  unfold fn_291 at h
  have J116_0 : ∀ (Y : Sm), fn_291_J116 Y = some o → Wm 11 0 291 0 116 [(0, aR 48 0)] [] Y (Rt none o.2) nX := by
    intro Y h
    unfold fn_291_J116 at h
    refine w_sg k291 4 (pc' := 122) (ls' := [(0, aR 48 0)]) (st' := [aI (nI 3), aI (gI Y.1 48 0 27), aR 48 0]) (cs' := []) (fun _ => rfl) al0 ?_
    refine w_icmp_ne k291 rfl (fun c => ?_) (fun c => ?_)
    · replace h := if_f c h
      refine w_sg k291 2 (pc' := 131) (ls' := [(0, aR 48 0)]) (st' := [aI (nI 1), aI (nI 0), aR 48 0]) (cs' := []) (fun _ => rfl) al0 ?_
      obtain ⟨_, Y12, hv13, h⟩ := bd_some h
      refine w_cV0 k291 (sn_277 _ _ _ _ hv13) rfl (st := []) rfl ?_ (fun _ _ q => q.elim)
      refine w_sg k291 1 (pc' := 135) (ls' := [(0, aR 48 0)]) (st' := [aR 48 0]) (cs' := []) (fun _ => rfl) al0 ?_
      obtain ⟨_, Y14, hv15, h⟩ := bd_some h
      refine w_cV0 k291 (sn_278  _ _ hv15) rfl (st := []) rfl ?_ (fun _ _ q => q.elim)
      obtain rfl := Option.some.inj h
      exact w_return k291 ⟨rfl, rfl⟩
    · replace h := if_t c h
      refine w_sg k291 3 (pc' := 131) (ls' := [(0, aR 48 0)]) (st' := [aI (nI 1), aI (nI 1), aR 48 0]) (cs' := []) (fun _ => rfl) al0 ?_
      obtain ⟨_, Y16, hv17, h⟩ := bd_some h
      refine w_cV0 k291 (sn_277 _ _ _ _ hv17) rfl (st := []) rfl ?_ (fun _ _ q => q.elim)
      refine w_sg k291 1 (pc' := 135) (ls' := [(0, aR 48 0)]) (st' := [aR 48 0]) (cs' := []) (fun _ => rfl) al0 ?_
      obtain ⟨_, Y18, hv19, h⟩ := bd_some h
      refine w_cV0 k291 (sn_278  _ _ hv19) rfl (st := []) rfl ?_ (fun _ _ q => q.elim)
      obtain rfl := Option.some.inj h
      exact w_return k291 ⟨rfl, rfl⟩
  have J110_0 : ∀ (Y : Sm), fn_291_J110 Y = some o → Wm 11 0 291 0 110 [(0, aR 48 0)] [] Y (Rt none o.2) nX := by
    intro Y h
    unfold fn_291_J110 at h
    refine w_sg k291 3 (pc' := 113) (ls' := [(0, aR 48 0)]) (st' := [aI (nI 1), aI (nI 0), aR 48 0]) (cs' := []) (fun _ => rfl) al0 ?_
    obtain ⟨_, Y10, hv11, h⟩ := bd_some h
    refine w_cV0 k291 (sn_277 _ _ _ _ hv11) rfl (st := []) rfl ?_ (fun _ _ q => q.elim)
    refine w_ls [(0, aR 48 0)] (lq_c rfl lq_n) ?_
    exact J116_0 _ h
  have J71_0 : ∀ (Y : Sm), fn_291_J71 Y = some o → Wm 11 0 291 0 71 [(0, aR 48 0)] [] Y (Rt none o.2) nX := by
    intro Y h
    unfold fn_291_J71 at h
    refine w_sg k291 3 (pc' := 76) (ls' := [(0, aR 48 0)]) (st' := [aI (nI 1), aI (gI Y.1 48 0 27)]) (cs' := []) (fun _ => rfl) al0 ?_
    refine w_icmp_ne k291 rfl (fun c => ?_) (fun c => ?_)
    · replace h := if_f c h
      refine w_ls [(0, aR 48 0)] (lq_c rfl lq_n) ?_
      exact J110_0 _ h
    · replace h := if_t c h
      refine w_sg k291 5 (pc' := 90) (ls' := [(0, aR 48 0)]) (st' := [aJ (((nI 15)).toInt64), aJ (((nI 11)).toInt64), aJ ((gI Y.1 48 0 28).toInt64)]) (cs' := []) (fun _ => rfl) al0 ?_
      obtain ⟨v22, Y20, hv21, h⟩ := bd_some h
      refine w_cS1 k291 (sn_166 _ _ _ _ _ hv21) rfl (st := []) rfl ?_ (fun _ _ q => q.elim)
      refine w_if_eq k291 rfl (fun c => ?_) (fun c => ?_)
      · replace h := if_t c h
        refine w_ls [(0, aR 48 0)] (lq_c rfl lq_n) ?_
        exact J110_0 _ h
      · replace h := if_f c h
        refine w_sg k291 5 (pc' := 104) (ls' := [(0, aR 48 0)]) (st' := [aI ((gI Y20.1 48 0 28) - (nI 10)), aR 48 0]) (cs' := []) (fun _ => rfl) al0 ?_
        obtain ⟨_, Y23, hv24, h⟩ := bd_some h
        refine w_cV0 k291 (sn_289 _ _ _ hv24) rfl (st := []) rfl ?_ (fun _ _ q => q.elim)
        refine w_sg k291 1 (pc' := 116) (ls' := [(0, aR 48 0)]) (st' := []) (cs' := []) (fun _ => rfl) al0 ?_
        refine w_ls [(0, aR 48 0)] (lq_c rfl lq_n) ?_
        exact J116_0 _ h
  refine w_sg k291 2 (pc' := 2) (ls' := [(0, aR 48 0)]) (st' := [aI (nI 0), aR 48 0]) (cs' := []) (fun _ => rfl) al0 ?_
  obtain ⟨v3, Y1, hv2, h⟩ := bd_some h
  refine w_cV1 k291 (sn_279 _ _ _ hv2) rfl (st := []) rfl ?_ (fun _ _ q => q.elim)
  refine w_if_eq k291 rfl (fun c => ?_) (fun c => ?_)
  · replace h := if_t c h
    refine w_sg k291 2 (pc' := 17) (ls' := [(0, aR 48 0)]) (st' := [aI (nI 4), aR 48 0]) (cs' := []) (fun _ => rfl) al0 ?_
    obtain ⟨v6, Y4, hv5, h⟩ := bd_some h
    refine w_cV1 k291 (sn_279 _ _ _ hv5) rfl (st := []) rfl ?_ (fun _ _ q => q.elim)
    refine w_if_eq k291 rfl (fun c => ?_) (fun c => ?_)
    · replace h := if_t c h
      refine w_sg k291 2 (pc' := 33) (ls' := [(0, aR 48 0)]) (st' := [aI (nI 16), aR 48 0]) (cs' := []) (fun _ => rfl) al0 ?_
      obtain ⟨v9, Y7, hv8, h⟩ := bd_some h
      refine w_cV1 k291 (sn_279 _ _ _ hv8) rfl (st := []) rfl ?_ (fun _ _ q => q.elim)
      refine w_if_eq k291 rfl (fun c => ?_) (fun c => ?_)
      · replace h := if_t c h
        refine w_sg k291 3 (pc' := 51) (ls' := [(0, aR 48 0)]) (st' := [aI (nI 1), aI (gI Y7.1 48 0 27)]) (cs' := []) (fun _ => rfl) al0 ?_
        refine w_icmp_ne k291 rfl (fun c => ?_) (fun c => ?_)
        · replace h := if_f c h
          refine w_ls [(0, aR 48 0)] (lq_c rfl lq_n) ?_
          exact J71_0 _ h
        · replace h := if_t c h
          refine w_sg k291 3 (pc' := 60) (ls' := [(0, aR 48 0)]) (st' := [aI (nI 7), aI (gI Y7.1 48 0 28)]) (cs' := []) (fun _ => rfl) al0 ?_
          refine w_icmp_ne k291 rfl (fun c => ?_) (fun c => ?_)
          · replace h := if_f c h
            refine w_ls [(0, aR 48 0)] (lq_c rfl lq_n) ?_
            exact J71_0 _ h
          · replace h := if_t c h
            refine w_sg k291 2 (pc' := 65) (ls' := [(0, aR 48 0)]) (st' := [aI (nI 0), aR 48 0]) (cs' := []) (fun _ => rfl) al0 ?_
            obtain ⟨_, Y25, hv26, h⟩ := bd_some h
            refine w_cV0 k291 (sn_289 _ _ _ hv26) rfl (st := []) rfl ?_ (fun _ _ q => q.elim)
            refine w_sg k291 1 (pc' := 116) (ls' := [(0, aR 48 0)]) (st' := []) (cs' := []) (fun _ => rfl) al0 ?_
            refine w_ls [(0, aR 48 0)] (lq_c rfl lq_n) ?_
            exact J116_0 _ h
      · replace h := if_f c h
        refine w_sg k291 1 (pc' := 40) (ls' := [(0, aR 48 0)]) (st' := [aR 48 0]) (cs' := []) (fun _ => rfl) al0 ?_
        obtain ⟨_, Y27, hv28, h⟩ := bd_some h
        refine w_cV0 k291 (sn_290  _ _ hv28) rfl (st := []) rfl ?_ (fun _ _ q => q.elim)
        refine w_sg k291 1 (pc' := 116) (ls' := [(0, aR 48 0)]) (st' := []) (cs' := []) (fun _ => rfl) al0 ?_
        refine w_ls [(0, aR 48 0)] (lq_c rfl lq_n) ?_
        exact J116_0 _ h
    · replace h := if_f c h
      refine w_sg k291 1 (pc' := 24) (ls' := [(0, aR 48 0)]) (st' := [aR 48 0]) (cs' := []) (fun _ => rfl) al0 ?_
      obtain ⟨_, Y29, hv30, h⟩ := bd_some h
      refine w_cV0 k291 (sn_286  _ _ hv30) rfl (st := []) rfl ?_ (fun _ _ q => q.elim)
      refine w_sg k291 1 (pc' := 116) (ls' := [(0, aR 48 0)]) (st' := []) (cs' := []) (fun _ => rfl) al0 ?_
      refine w_ls [(0, aR 48 0)] (lq_c rfl lq_n) ?_
      exact J116_0 _ h
  · replace h := if_f c h
    refine w_sg k291 1 (pc' := 9) (ls' := [(0, aR 48 0)]) (st' := [aR 48 0]) (cs' := []) (fun _ => rfl) al0 ?_
    obtain ⟨_, Y31, hv32, h⟩ := bd_some h
    refine w_cV0 k291 (sn_285  _ _ hv32) rfl (st := []) rfl ?_ (fun _ _ q => q.elim)
    refine w_sg k291 1 (pc' := 116) (ls' := [(0, aR 48 0)]) (st' := []) (cs' := []) (fun _ => rfl) al0 ?_
    refine w_ls [(0, aR 48 0)] (lq_c rfl lq_n) ?_
    exact J116_0 _ h
set_option maxRecDepth 20000 in
set_option maxHeartbeats 4000000 in
/-- BallotBusModel.copies -/
theorem sn_170_53_52 {Y : Sm} (v : Unit) (Z : Sm) (h : fn_170_53_52 Y = some (v, Z)) : Mt 4 0 170 [aR 53 0, aR 52 0] Y (Rt none Z) nX := by
  refine Mt_of [(0, aR 53 0), (1, aR 52 0)] ?_
  generalize ho : (v, Z) = o at h
  have hv9 : v = o.1 := congrArg Prod.fst ho
  have hZ9 : Z = o.2 := congrArg Prod.snd ho
  clear ho
  subst hv9 hZ9
  unfold fn_170_53_52 at h
  have L2_0 : ∀ (n : Nat) (l2 : Int32) (Y : Sm), lp (fun s => fn_170_53_52_L2 s.1 s.2) n (l2, Y) = some o → Wm 4 0 170 0 2 [(0, aR 53 0), (1, aR 52 0), (2, aI l2)] [] Y (Rt none o.2) nX := by
    intro n
    induction n with
    | zero => intro l2 Y h; cases h
    | succ n ih3 =>
      intro l2 Y h
      obtain ⟨q1, h, hn2⟩ := lp_succ h
      replace h : fn_170_53_52_L2 l2 Y = some q1 := h
      unfold fn_170_53_52_L2 at h
      refine w_sg k170 2 (pc' := 6) (ls' := [(0, aR 53 0), (1, aR 52 0), (2, aI l2)]) (st' := [aI (nI 718), aI l2]) (cs' := []) (fun _ => rfl) al0 ?_
      refine w_icmp_ge k170 rfl (fun c => ?_) (fun c => ?_)
      · replace h := if_t c h
        obtain rfl := Option.some.inj h
        obtain rfl := lpn_r hn2
        exact w_return k170 ⟨rfl, rfl⟩
      · replace h := if_f c h
        obtain ⟨hc4, h⟩ := ck_some h
        refine w_sw k170 6 (Z := (sI Y 52 0 (ix l2) (gI Y.1 53 0 (ix l2)))) (pc' := 15) (ls' := [(0, aR 53 0), (1, aR 52 0), (2, aI l2)]) (st' := []) (cs' := [vp_in l2 718, vp_in l2 718, allw 52 0]) (fun _ => rfl) rfl (al2 (vin hc4) (al2 (vin hc4) (al1 rfl))) ?_
        replace h := wr_some h
        generalize (sI Y 52 0 (ix l2) (gI Y.1 53 0 (ix l2))) = Y5 at h ⊢
        refine w_sg k170 1 (pc' := 18) (ls' := [(0, aR 53 0), (1, aR 52 0), (2, aI (l2 + (nI 1)))]) (st' := []) (cs' := []) (fun _ => rfl) al0 ?_
        refine w_sg k170 1 (pc' := 2) (ls' := [(0, aR 53 0), (1, aR 52 0), (2, aI (l2 + (nI 1)))]) (st' := []) (cs' := []) (fun _ => rfl) al0 ?_
        refine w_ls [(0, aR 53 0), (1, aR 52 0), (2, aI (l2 + (nI 1)))] (lq_c rfl (lq_c rfl (lq_c rfl lq_n))) ?_
        obtain rfl := Option.some.inj h
        exact ih3 _ _ (lpn_l hn2)
  refine w_sg k170 2 (pc' := 2) (ls' := [(0, aR 53 0), (1, aR 52 0), (2, aI (nI 0))]) (st' := []) (cs' := []) (fun _ => rfl) al0 ?_
  refine w_ls [(0, aR 53 0), (1, aR 52 0), (2, aI (nI 0))] (lq_c rfl (lq_c rfl (lq_c rfl lq_n))) ?_
  exact L2_0 _ _ _ h
set_option maxRecDepth 20000 in
set_option maxHeartbeats 4000000 in
/-- BallotBusModel.takesDraft -/
theorem sn_269 {Y : Sm} (v : Unit) (Z : Sm) (h : fn_269 Y = some (v, Z)) : Mt 5 0 269 [aR 48 0] Y (Rt none Z) nX := by
  refine Mt_of [(0, aR 48 0)] ?_
  generalize ho : (v, Z) = o at h
  have hv9 : v = o.1 := congrArg Prod.fst ho
  have hZ9 : Z = o.2 := congrArg Prod.snd ho
  clear ho
  subst hv9 hZ9
  unfold fn_269 at h
  have L68_0 : ∀ (n : Nat) (l1 : Int32) (Y : Sm) (e11 : (Sm) ⊕ (Unit × Sm)), lp (fun s => fn_269_L68 s.1 s.2) n (l1, Y) = some e11 → (∀ s9 : (Sm), e11 = .inl s9 → Wm 5 0 269 0 94 [(0, aR 48 0)] [] s9 (Rt none o.2) nX) → (∀ r, e11 = .inr r → r = o) → Wm 5 0 269 0 68 [(0, aR 48 0), (1, aI l1)] [] Y (Rt none o.2) nX := by
    intro n
    induction n with
    | zero => intro l1 Y e11 h; cases h
    | succ n ih10 =>
      intro l1 Y e11 h kE12 kR13
      obtain ⟨q8, h, hn9⟩ := lp_succ h
      replace h : fn_269_L68 l1 Y = some q8 := h
      unfold fn_269_L68 at h
      refine w_sg k269 3 (pc' := 73) (ls' := [(0, aR 48 0), (1, aI l1)]) (st' := [aI (gI Y.1 48 0 1), aI l1]) (cs' := []) (fun _ => rfl) al0 ?_
      refine w_icmp_ge k269 rfl (fun c => ?_) (fun c => ?_)
      · replace h := if_t c h
        refine w_ls [(0, aR 48 0)] (lq_c rfl lq_n) ?_
        obtain rfl := Option.some.inj h
        obtain rfl := lpn_r hn9
        exact kE12 (Y) rfl
      · replace h := if_f c h
        obtain ⟨hc14, h⟩ := ck_some h
        refine w_sw k269 8 (Z := (sJ Y 50 0 (ix l1) (gJ Y.1 63 0 (ix l1)))) (pc' := 88) (ls' := [(0, aR 48 0), (1, aI l1)]) (st' := []) (cs' := [vp_in l1 5, vp_in l1 5, allw 50 0]) (fun _ => rfl) rfl (al2 (vin hc14) (al2 (vin hc14) (al1 rfl))) ?_
        replace h := wr_some h
        generalize (sJ Y 50 0 (ix l1) (gJ Y.1 63 0 (ix l1))) = Y15 at h ⊢
        refine w_sg k269 1 (pc' := 91) (ls' := [(0, aR 48 0), (1, aI (l1 + (nI 1)))]) (st' := []) (cs' := []) (fun _ => rfl) al0 ?_
        refine w_sg k269 1 (pc' := 68) (ls' := [(0, aR 48 0), (1, aI (l1 + (nI 1)))]) (st' := []) (cs' := []) (fun _ => rfl) al0 ?_
        refine w_ls [(0, aR 48 0), (1, aI (l1 + (nI 1)))] (lq_c rfl (lq_c rfl lq_n)) ?_
        obtain rfl := Option.some.inj h
        exact ih10 _ _ _ (lpn_l hn9) kE12 kR13
  have L96_0 : ∀ (n : Nat) (l1 : Int32) (Y : Sm) (e19 : (Sm) ⊕ (Unit × Sm)), lp (fun s => fn_269_L96 s.1 s.2) n (l1, Y) = some e19 → (∀ s9 : (Sm), e19 = .inl s9 → Wm 5 0 269 0 134 [(0, aR 48 0)] [] s9 (Rt none o.2) nX) → (∀ r, e19 = .inr r → r = o) → Wm 5 0 269 0 96 [(0, aR 48 0), (1, aI l1)] [] Y (Rt none o.2) nX := by
    intro n
    induction n with
    | zero => intro l1 Y e19 h; cases h
    | succ n ih18 =>
      intro l1 Y e19 h kE20 kR21
      obtain ⟨q16, h, hn17⟩ := lp_succ h
      replace h : fn_269_L96 l1 Y = some q16 := h
      unfold fn_269_L96 at h
      refine w_sg k269 3 (pc' := 101) (ls' := [(0, aR 48 0), (1, aI l1)]) (st' := [aI (gI Y.1 48 0 2), aI l1]) (cs' := []) (fun _ => rfl) al0 ?_
      refine w_icmp_ge k269 rfl (fun c => ?_) (fun c => ?_)
      · replace h := if_t c h
        refine w_ls [(0, aR 48 0)] (lq_c rfl lq_n) ?_
        obtain rfl := Option.some.inj h
        obtain rfl := lpn_r hn17
        exact kE20 (Y) rfl
      · replace h := if_f c h
        obtain ⟨hc22, h⟩ := ck_some h
        refine w_sw k269 8 (Z := (sJ Y 51 0 (ix l1) (gJ Y.1 64 0 (ix l1)))) (pc' := 116) (ls' := [(0, aR 48 0), (1, aI l1)]) (st' := []) (cs' := [vp_in l1 8, vp_in l1 8, allw 51 0]) (fun _ => rfl) rfl (al2 (vin hc22) (al2 (vin hc22) (al1 rfl))) ?_
        replace h := wr_some h
        generalize (sJ Y 51 0 (ix l1) (gJ Y.1 64 0 (ix l1))) = Y23 at h ⊢
        refine w_sw k269 8 (Z := (sI Y23 49 0 (ix l1) (gI Y23.1 62 0 (ix l1)))) (pc' := 128) (ls' := [(0, aR 48 0), (1, aI l1)]) (st' := []) (cs' := [vp_in l1 8, vp_in l1 8, allw 49 0]) (fun _ => rfl) rfl (al2 (vin hc22) (al2 (vin hc22) (al1 rfl))) ?_
        replace h := wr_some h
        generalize (sI Y23 49 0 (ix l1) (gI Y23.1 62 0 (ix l1))) = Y24 at h ⊢
        refine w_sg k269 1 (pc' := 131) (ls' := [(0, aR 48 0), (1, aI (l1 + (nI 1)))]) (st' := []) (cs' := []) (fun _ => rfl) al0 ?_
        refine w_sg k269 1 (pc' := 96) (ls' := [(0, aR 48 0), (1, aI (l1 + (nI 1)))]) (st' := []) (cs' := []) (fun _ => rfl) al0 ?_
        refine w_ls [(0, aR 48 0), (1, aI (l1 + (nI 1)))] (lq_c rfl (lq_c rfl lq_n)) ?_
        obtain rfl := Option.some.inj h
        exact ih18 _ _ _ (lpn_l hn17) kE20 kR21
  have L147_0 : ∀ (n : Nat) (l1 : Int32) (Y : Sm) (e30 : (Sm) ⊕ (Unit × Sm)), lp (fun s => fn_269_L147 s.1 s.2) n (l1, Y) = some e30 → (∀ s9 : (Sm), e30 = .inl s9 → Wm 5 0 269 0 171 [(0, aR 48 0)] [] s9 (Rt none o.2) nX) → (∀ r, e30 = .inr r → r = o) → Wm 5 0 269 0 147 [(0, aR 48 0), (1, aI l1)] [] Y (Rt none o.2) nX := by
    intro n
    induction n with
    | zero => intro l1 Y e30 h; cases h
    | succ n ih29 =>
      intro l1 Y e30 h kE31 kR32
      obtain ⟨q27, h, hn28⟩ := lp_succ h
      replace h : fn_269_L147 l1 Y = some q27 := h
      unfold fn_269_L147 at h
      refine w_sg k269 3 (pc' := 152) (ls' := [(0, aR 48 0), (1, aI l1)]) (st' := [aI (gI Y.1 48 0 1), aI l1]) (cs' := []) (fun _ => rfl) al0 ?_
      refine w_icmp_ge k269 rfl (fun c => ?_) (fun c => ?_)
      · replace h := if_t c h
        refine w_ls [(0, aR 48 0)] (lq_c rfl lq_n) ?_
        obtain rfl := Option.some.inj h
        obtain rfl := lpn_r hn28
        exact kE31 (Y) rfl
      · replace h := if_f c h
        obtain ⟨hc33, h⟩ := ck_some h
        refine w_sw k269 7 (Z := (sI Y 52 0 (ix ((nI 10) + l1)) l1)) (pc' := 165) (ls' := [(0, aR 48 0), (1, aI l1)]) (st' := []) (cs' := [vp_in ((nI 10) + l1) 718, allw 52 0]) (fun _ => rfl) rfl (al2 (vin hc33) (al1 rfl)) ?_
        replace h := wr_some h
        generalize (sI Y 52 0 (ix ((nI 10) + l1)) l1) = Y34 at h ⊢
        refine w_sg k269 1 (pc' := 168) (ls' := [(0, aR 48 0), (1, aI (l1 + (nI 1)))]) (st' := []) (cs' := []) (fun _ => rfl) al0 ?_
        refine w_sg k269 1 (pc' := 147) (ls' := [(0, aR 48 0), (1, aI (l1 + (nI 1)))]) (st' := []) (cs' := []) (fun _ => rfl) al0 ?_
        refine w_ls [(0, aR 48 0), (1, aI (l1 + (nI 1)))] (lq_c rfl (lq_c rfl lq_n)) ?_
        obtain rfl := Option.some.inj h
        exact ih29 _ _ _ (lpn_l hn28) kE31 kR32
  have L173_0 : ∀ (n : Nat) (l1 : Int32) (Y : Sm), lp (fun s => fn_269_L173 s.1 s.2) n (l1, Y) = some o → Wm 5 0 269 0 173 [(0, aR 48 0), (1, aI l1)] [] Y (Rt none o.2) nX := by
    intro n
    induction n with
    | zero => intro l1 Y h; cases h
    | succ n ih37 =>
      intro l1 Y h
      obtain ⟨q35, h, hn36⟩ := lp_succ h
      replace h : fn_269_L173 l1 Y = some q35 := h
      unfold fn_269_L173 at h
      have L183_0 : ∀ (l1 : Int32) (n : Nat) (l2 : Int32) (Y : Sm), lp (fun s => fn_269_L183_d1 l1 s.1 s.2) n (l2, Y) = some q35 → Wm 5 0 269 0 183 [(0, aR 48 0), (1, aI l1), (2, aI l2)] [] Y (Rt none o.2) nX := by
        intro l1 n
        induction n with
        | zero => intro l2 Y h; cases h
        | succ n ih42 =>
          intro l2 Y h
          obtain ⟨q40, h, hn41⟩ := lp_succ h
          replace h : fn_269_L183_d1 l1 l2 Y = some q40 := h
          unfold fn_269_L183_d1 at h
          refine w_sg k269 3 (pc' := 188) (ls' := [(0, aR 48 0), (1, aI l1), (2, aI l2)]) (st' := [aI (gI Y.1 48 0 1), aI l2]) (cs' := []) (fun _ => rfl) al0 ?_
          refine w_icmp_ge k269 rfl (fun c => ?_) (fun c => ?_)
          · replace h := if_t c h
            refine w_sg k269 1 (pc' := 214) (ls' := [(0, aR 48 0), (1, aI (l1 + (nI 1))), (2, aI l2)]) (st' := []) (cs' := []) (fun _ => rfl) al0 ?_
            refine w_sg k269 1 (pc' := 173) (ls' := [(0, aR 48 0), (1, aI (l1 + (nI 1))), (2, aI l2)]) (st' := []) (cs' := []) (fun _ => rfl) al0 ?_
            refine w_ls [(0, aR 48 0), (1, aI (l1 + (nI 1)))] (lq_c rfl (lq_c rfl lq_n)) ?_
            obtain rfl := Option.some.inj h
            obtain rfl := lpn_r hn41
            exact ih37 _ _ (lpn_l hn36)
          · replace h := if_f c h
            refine w_sg k269 8 (pc' := 202) (ls' := [(0, aR 48 0), (1, aI l1), (2, aI l2)]) (st' := [aI l2, aI ((nI 78) + ((nI 5) * l1)), aR 52 0]) (cs' := []) (fun _ => rfl) al0 ?_
            obtain ⟨hc43, h⟩ := ck_some h
            refine w_sw k269 3 (Z := (sI Y 52 0 (ix (((nI 78) + ((nI 5) * l1)) + l2)) l2)) (pc' := 205) (ls' := [(0, aR 48 0), (1, aI l1), (2, aI l2)]) (st' := []) (cs' := [vp_in (((nI 78) + ((nI 5) * l1)) + l2) 718, allw 52 0]) (fun _ => rfl) rfl (al2 (vin hc43) (al1 rfl)) ?_
            replace h := wr_some h
            generalize (sI Y 52 0 (ix (((nI 78) + ((nI 5) * l1)) + l2)) l2) = Y44 at h ⊢
            refine w_sg k269 1 (pc' := 208) (ls' := [(0, aR 48 0), (1, aI l1), (2, aI (l2 + (nI 1)))]) (st' := []) (cs' := []) (fun _ => rfl) al0 ?_
            refine w_sg k269 1 (pc' := 183) (ls' := [(0, aR 48 0), (1, aI l1), (2, aI (l2 + (nI 1)))]) (st' := []) (cs' := []) (fun _ => rfl) al0 ?_
            refine w_ls [(0, aR 48 0), (1, aI l1), (2, aI (l2 + (nI 1)))] (lq_c rfl (lq_c rfl (lq_c rfl lq_n))) ?_
            obtain rfl := Option.some.inj h
            exact ih42 _ _ (lpn_l hn41)
      refine w_sg k269 3 (pc' := 178) (ls' := [(0, aR 48 0), (1, aI l1)]) (st' := [aI (gI Y.1 48 0 2), aI l1]) (cs' := []) (fun _ => rfl) al0 ?_
      refine w_icmp_ge k269 rfl (fun c => ?_) (fun c => ?_)
      · replace h := if_t c h
        refine w_sw k269 3 (Z := (sI Y 48 0 17 (nI 0))) (pc' := 222) (ls' := [(0, aR 48 0), (1, aI l1)]) (st' := []) (cs' := [allw 48 0]) (fun _ => rfl) rfl (al1 rfl) ?_
        replace h := wr_some h
        generalize (sI Y 48 0 17 (nI 0)) = Y38 at h ⊢
        refine w_sw k269 3 (Z := (sI Y38 48 0 18 (nI 0))) (pc' := 227) (ls' := [(0, aR 48 0), (1, aI l1)]) (st' := []) (cs' := [allw 48 0, (nI 0) = 0 ∨ (nI 0) = 1]) (fun _ => rfl) rfl (al2 rfl (al1 (Or.inl rfl))) ?_
        replace h := wr_some h
        generalize (sI Y38 48 0 18 (nI 0)) = Y39 at h ⊢
        obtain rfl := Option.some.inj h
        obtain rfl := lpn_r hn36
        exact w_return k269 ⟨rfl, rfl⟩
      · replace h := if_f c h
        refine w_sg k269 2 (pc' := 183) (ls' := [(0, aR 48 0), (1, aI l1), (2, aI (nI 0))]) (st' := []) (cs' := []) (fun _ => rfl) al0 ?_
        refine w_ls [(0, aR 48 0), (1, aI l1), (2, aI (nI 0))] (lq_c rfl (lq_c rfl (lq_c rfl lq_n))) ?_
        exact L183_0 _ _ _ _ h
  have J171_0 : ∀ (Y : Sm), fn_269_J171 Y = some o → Wm 5 0 269 0 171 [(0, aR 48 0)] [] Y (Rt none o.2) nX := by
    intro Y h
    unfold fn_269_J171 at h
    refine w_sg k269 2 (pc' := 173) (ls' := [(0, aR 48 0), (1, aI (nI 0))]) (st' := []) (cs' := []) (fun _ => rfl) al0 ?_
    refine w_ls [(0, aR 48 0), (1, aI (nI 0))] (lq_c rfl (lq_c rfl lq_n)) ?_
    exact L173_0 _ _ _ h
  have J134_0 : ∀ (Y : Sm), fn_269_J134 Y = some o → Wm 5 0 269 0 134 [(0, aR 48 0)] [] Y (Rt none o.2) nX := by
    intro Y h
    unfold fn_269_J134 at h
    refine w_sg k269 4 (pc' := 142) (ls' := [(0, aR 48 0)]) (st' := [aR 52 0, aR 53 0]) (cs' := []) (fun _ => rfl) al0 ?_
    obtain ⟨_, Y25, hv26, h⟩ := bd_some h
    refine w_cS0 k269 (sn_170_53_52  _ _ hv26) rfl (st := []) rfl ?_ (fun _ _ q => q.elim)
    refine w_sg k269 2 (pc' := 147) (ls' := [(0, aR 48 0), (1, aI (nI 0))]) (st' := []) (cs' := []) (fun _ => rfl) al0 ?_
    obtain ⟨e47, hl45, hx46⟩ := exd_some h
    refine w_ls [(0, aR 48 0), (1, aI (nI 0))] (lq_c rfl (lq_c rfl lq_n)) ?_
    refine L147_0 _ _ _ e47 hl45 (fun s9 hs9 => ?_) (fun r9 hr9 => ?_)
    · subst hs9
      replace h : fn_269_J171 s9 = some o := hx46
      refine w_ls [(0, aR 48 0)] (lq_c rfl lq_n) ?_
      exact J171_0 _ h
    · subst hr9
      exact hx46
  have J94_0 : ∀ (Y : Sm), fn_269_J94 Y = some o → Wm 5 0 269 0 94 [(0, aR 48 0)] [] Y (Rt none o.2) nX := by
    intro Y h
    unfold fn_269_J94 at h
    refine w_sg k269 2 (pc' := 96) (ls' := [(0, aR 48 0), (1, aI (nI 0))]) (st' := []) (cs' := []) (fun _ => rfl) al0 ?_
    obtain ⟨e50, hl48, hx49⟩ := exd_some h
    refine w_ls [(0, aR 48 0), (1, aI (nI 0))] (lq_c rfl (lq_c rfl lq_n)) ?_
    refine L96_0 _ _ _ e50 hl48 (fun s9 hs9 => ?_) (fun r9 hr9 => ?_)
    · subst hs9
      replace h : fn_269_J134 s9 = some o := hx49
      refine w_ls [(0, aR 48 0)] (lq_c rfl lq_n) ?_
      exact J134_0 _ h
    · subst hr9
      exact hx49
  refine w_sw k269 4 (Z := (sI Y 48 0 1 (gI Y.1 48 0 33))) (pc' := 8) (ls' := [(0, aR 48 0)]) (st' := []) (cs' := [allw 48 0]) (fun _ => rfl) rfl (al1 rfl) ?_
  replace h := wr_some h
  generalize (sI Y 48 0 1 (gI Y.1 48 0 33)) = Y1 at h ⊢
  refine w_sw k269 4 (Z := (sI Y1 48 0 2 (gI Y1.1 48 0 34))) (pc' := 16) (ls' := [(0, aR 48 0)]) (st' := []) (cs' := [allw 48 0]) (fun _ => rfl) rfl (al1 rfl) ?_
  replace h := wr_some h
  generalize (sI Y1 48 0 2 (gI Y1.1 48 0 34)) = Y2 at h ⊢
  refine w_sw k269 6 (Z := (sI Y2 48 0 3 (gI Y2.1 61 0 0))) (pc' := 26) (ls' := [(0, aR 48 0)]) (st' := []) (cs' := [vp_in (nI 0) 5, allw 48 0]) (fun _ => rfl) rfl (al2 (vin rfl) (al1 rfl)) ?_
  replace h := wr_some h
  generalize (sI Y2 48 0 3 (gI Y2.1 61 0 0)) = Y3 at h ⊢
  refine w_sw k269 6 (Z := (sI Y3 48 0 4 (gI Y3.1 61 0 1))) (pc' := 36) (ls' := [(0, aR 48 0)]) (st' := []) (cs' := [vp_in (nI 1) 5, allw 48 0]) (fun _ => rfl) rfl (al2 (vin rfl) (al1 rfl)) ?_
  replace h := wr_some h
  generalize (sI Y3 48 0 4 (gI Y3.1 61 0 1)) = Y4 at h ⊢
  refine w_sw k269 6 (Z := (sI Y4 48 0 5 (gI Y4.1 61 0 2))) (pc' := 46) (ls' := [(0, aR 48 0)]) (st' := []) (cs' := [vp_in (nI 2) 5, allw 48 0]) (fun _ => rfl) rfl (al2 (vin rfl) (al1 rfl)) ?_
  replace h := wr_some h
  generalize (sI Y4 48 0 5 (gI Y4.1 61 0 2)) = Y5 at h ⊢
  refine w_sw k269 6 (Z := (sI Y5 48 0 6 (gI Y5.1 61 0 3))) (pc' := 56) (ls' := [(0, aR 48 0)]) (st' := []) (cs' := [vp_in (nI 3) 5, allw 48 0]) (fun _ => rfl) rfl (al2 (vin rfl) (al1 rfl)) ?_
  replace h := wr_some h
  generalize (sI Y5 48 0 6 (gI Y5.1 61 0 3)) = Y6 at h ⊢
  refine w_sw k269 6 (Z := (sI Y6 48 0 7 (gI Y6.1 61 0 4))) (pc' := 66) (ls' := [(0, aR 48 0)]) (st' := []) (cs' := [vp_in (nI 4) 5, allw 48 0]) (fun _ => rfl) rfl (al2 (vin rfl) (al1 rfl)) ?_
  replace h := wr_some h
  generalize (sI Y6 48 0 7 (gI Y6.1 61 0 4)) = Y7 at h ⊢
  refine w_sg k269 2 (pc' := 68) (ls' := [(0, aR 48 0), (1, aI (nI 0))]) (st' := []) (cs' := []) (fun _ => rfl) al0 ?_
  obtain ⟨e53, hl51, hx52⟩ := exd_some h
  refine w_ls [(0, aR 48 0), (1, aI (nI 0))] (lq_c rfl (lq_c rfl lq_n)) ?_
  refine L68_0 _ _ _ e53 hl51 (fun s9 hs9 => ?_) (fun r9 hr9 => ?_)
  · subst hs9
    replace h : fn_269_J94 s9 = some o := hx52
    refine w_ls [(0, aR 48 0)] (lq_c rfl lq_n) ?_
    exact J94_0 _ h
  · subst hr9
    exact hx52
