/-! the code of the methods does what their functions say (printed by wip/whole/gen20.py) -/
set_option maxRecDepth 20000 in
set_option maxHeartbeats 4000000 in
/-- BallotBus$Poll.clear -/
theorem sn_26 (a1 : Int32) {Y : Sm} (v : Unit) (Z : Sm) (h : fn_26 a1 Y = some (v, Z)) : Mt 4 0 26 [aR 39 0, aI a1] Y (Rt none Z) nX := by
  refine Mt_of [(0, aR 39 0), (1, aI a1)] ?_
  generalize ho : (v, Z) = o at h
  have hv9 : v = o.1 := congrArg Prod.fst ho
  have hZ9 : Z = o.2 := congrArg Prod.snd ho
  clear ho
  subst hv9 hZ9
  unfold fn_26 at h
  have L12_0 : ∀ (n : Nat) (l2 : Int32) (Y : Sm), lp (fun s => fn_26_L12 s.1 s.2) n (l2, Y) = some o → Wm 4 0 26 0 12 [(0, aR 39 0), (2, aI l2)] [] Y (Rt none o.2) nX := by
    intro n
    induction n with
    | zero => intro l2 Y h; cases h
    | succ n ih5 =>
      intro l2 Y h
      obtain ⟨q3, h, hn4⟩ := lp_succ h
      replace h : fn_26_L12 l2 Y = some q3 := h
      unfold fn_26_L12 at h
      have L33_0 : ∀ (l2 : Int32) (n : Nat) (l3 : Int32) (Y : Sm), lp (fun s => fn_26_L33_d1 l2 s.1 s.2) n (l3, Y) = some q3 → Wm 4 0 26 0 33 [(0, aR 39 0), (2, aI l2), (3, aI l3)] [] Y (Rt none o.2) nX := by
        intro l2 n
        induction n with
        | zero => intro l3 Y h; cases h
        | succ n ih11 =>
          intro l3 Y h
          obtain ⟨q9, h, hn10⟩ := lp_succ h
          replace h : fn_26_L33_d1 l2 l3 Y = some q9 := h
          unfold fn_26_L33_d1 at h
          refine w_sg k26 2 (pc' := 35) (ls' := [(0, aR 39 0), (2, aI l2), (3, aI l3)]) (st' := [aI (nI 5), aI l3]) (cs' := []) (fun _ => rfl) al0 ?_
          refine w_icmp_ge k26 rfl (fun c => ?_) (fun c => ?_)
          · replace h := if_t c h
            refine w_sg k26 1 (pc' := 65) (ls' := [(0, aR 39 0), (2, aI (l2 + (nI 1))), (3, aI l3)]) (st' := []) (cs' := []) (fun _ => rfl) al0 ?_
            refine w_sg k26 1 (pc' := 12) (ls' := [(0, aR 39 0), (2, aI (l2 + (nI 1))), (3, aI l3)]) (st' := []) (cs' := []) (fun _ => rfl) al0 ?_
            refine w_ls [(0, aR 39 0), (2, aI (l2 + (nI 1)))] (lq_c rfl (lq_c rfl lq_n)) ?_
            obtain rfl := Option.some.inj h
            obtain rfl := lpn_r hn10
            exact ih5 _ _ (lpn_l hn4)
          · replace h := if_f c h
            obtain ⟨hc12, h⟩ := ck_some h
            refine w_sg k26 4 (pc' := 44) (ls' := [(0, aR 39 0), (2, aI l2), (3, aI l3)]) (st' := [aR 43 (ix l2)]) (cs' := [vp_in l2 5]) (fun _ => rfl) (al1 (vin hc12)) ?_
            obtain ⟨hc13, h⟩ := ck_some h
            refine w_sw k26 3 (Z := (sI Y 43 (ix l2) (ix l3) (nI 0))) (pc' := 47) (ls' := [(0, aR 39 0), (2, aI l2), (3, aI l3)]) (st' := []) (cs' := [vp_in l3 5, allw 43 (ix l2)]) (fun _ => rfl) rfl (al2 (vin hc13) (al1 rfl)) ?_
            replace h := wr_some h
            generalize (sI Y 43 (ix l2) (ix l3) (nI 0)) = Y14 at h ⊢
            refine w_sg k26 4 (pc' := 53) (ls' := [(0, aR 39 0), (2, aI l2), (3, aI l3)]) (st' := [aR 45 (ix l2)]) (cs' := [vp_in l2 5]) (fun _ => rfl) (al1 (vin hc12)) ?_
            refine w_sw k26 3 (Z := (sI Y14 45 (ix l2) (ix l3) (nI 0))) (pc' := 56) (ls' := [(0, aR 39 0), (2, aI l2), (3, aI l3)]) (st' := []) (cs' := [vp_in l3 5, allw 45 (ix l2)]) (fun _ => rfl) rfl (al2 (vin hc13) (al1 rfl)) ?_
            replace h := wr_some h
            generalize (sI Y14 45 (ix l2) (ix l3) (nI 0)) = Y15 at h ⊢
            refine w_sg k26 1 (pc' := 59) (ls' := [(0, aR 39 0), (2, aI l2), (3, aI (l3 + (nI 1)))]) (st' := []) (cs' := []) (fun _ => rfl) al0 ?_
            refine w_sg k26 1 (pc' := 33) (ls' := [(0, aR 39 0), (2, aI l2), (3, aI (l3 + (nI 1)))]) (st' := []) (cs' := []) (fun _ => rfl) al0 ?_
            refine w_ls [(0, aR 39 0), (2, aI l2), (3, aI (l3 + (nI 1)))] (lq_c rfl (lq_c rfl (lq_c rfl lq_n))) ?_
            obtain rfl := Option.some.inj h
            exact ih11 _ _ (lpn_l hn10)
      refine w_sg k26 2 (pc' := 14) (ls' := [(0, aR 39 0), (2, aI l2)]) (st' := [aI (nI 5), aI l2]) (cs' := []) (fun _ => rfl) al0 ?_
      refine w_icmp_ge k26 rfl (fun c => ?_) (fun c => ?_)
      · replace h := if_t c h
        obtain rfl := Option.some.inj h
        obtain rfl := lpn_r hn4
        exact w_return k26 ⟨rfl, rfl⟩
      · replace h := if_f c h
        obtain ⟨hc6, h⟩ := ck_some h
        refine w_sw k26 5 (Z := (sI Y 40 0 (ix l2) (nI 0))) (pc' := 24) (ls' := [(0, aR 39 0), (2, aI l2)]) (st' := []) (cs' := [vp_in l2 5, allw 40 0]) (fun _ => rfl) rfl (al2 (vin hc6) (al1 rfl)) ?_
        replace h := wr_some h
        generalize (sI Y 40 0 (ix l2) (nI 0)) = Y7 at h ⊢
        refine w_sw k26 5 (Z := (sI Y7 41 0 (ix l2) (nI 0))) (pc' := 31) (ls' := [(0, aR 39 0), (2, aI l2)]) (st' := []) (cs' := [vp_in l2 5, allw 41 0]) (fun _ => rfl) rfl (al2 (vin hc6) (al1 rfl)) ?_
        replace h := wr_some h
        generalize (sI Y7 41 0 (ix l2) (nI 0)) = Y8 at h ⊢
        refine w_sg k26 2 (pc' := 33) (ls' := [(0, aR 39 0), (2, aI l2), (3, aI (nI 0))]) (st' := []) (cs' := []) (fun _ => rfl) al0 ?_
        refine w_ls [(0, aR 39 0), (2, aI l2), (3, aI (nI 0))] (lq_c rfl (lq_c rfl (lq_c rfl lq_n))) ?_
        exact L33_0 _ _ _ _ h
  refine w_sw k26 3 (Z := (sI Y 39 0 0 a1)) (pc' := 5) (ls' := [(0, aR 39 0), (1, aI a1)]) (st' := []) (cs' := [allw 39 0]) (fun _ => rfl) rfl (al1 rfl) ?_
  replace h := wr_some h
  generalize (sI Y 39 0 0 a1) = Y1 at h ⊢
  refine w_sw k26 3 (Z := (sI Y1 39 0 1 (nI 0))) (pc' := 10) (ls' := [(0, aR 39 0), (1, aI a1)]) (st' := []) (cs' := [allw 39 0]) (fun _ => rfl) rfl (al1 rfl) ?_
  replace h := wr_some h
  generalize (sI Y1 39 0 1 (nI 0)) = Y2 at h ⊢
  refine w_sg k26 2 (pc' := 12) (ls' := [(0, aR 39 0), (1, aI a1), (2, aI (nI 0))]) (st' := []) (cs' := []) (fun _ => rfl) al0 ?_
  refine w_ls [(0, aR 39 0), (2, aI (nI 0))] (lq_c rfl (lq_c rfl lq_n)) ?_
  exact L12_0 _ _ _ h
set_option maxRecDepth 20000 in
set_option maxHeartbeats 4000000 in
/-- BallotBus$Poll.addBallot -/
theorem sn_27 (i1 : Nat) (a2 : Int32) {Y : Sm} (v : Unit) (Z : Sm) (h : fn_27 i1 a2 Y = some (v, Z)) : Mt 4 0 27 [aR 39 0, aR 27 i1, aI a2] Y (Rt none Z) nX := by
  refine Mt_of [(0, aR 39 0), (1, aR 27 i1), (2, aI a2)] ?_
  generalize ho : (v, Z) = o at h
  have hv9 : v = o.1 := congrArg Prod.fst ho
  have hZ9 : Z = o.2 := congrArg Prod.snd ho
  clear ho
  subst hv9 hZ9
  unfold fn_27 at h
  have L12_0 : ∀ (l1 : Nat) (l2 : Int32) (n : Nat) (l3 : Int32) (Y : Sm), lp (fun s => fn_27_L12 l1 l2 s.1 s.2) n (l3, Y) = some o → Wm 4 0 27 0 12 [(0, aR 39 0), (1, aR 27 l1), (2, aI l2), (3, aI l3)] [] Y (Rt none o.2) nX := by
    intro l1 l2 n
    induction n with
    | zero => intro l3 Y h; cases h
    | succ n ih4 =>
      intro l3 Y h
      obtain ⟨q2, h, hn3⟩ := lp_succ h
      replace h : fn_27_L12 l1 l2 l3 Y = some q2 := h
      unfold fn_27_L12 at h
      have L63_0 : ∀ (l3 : Int32) (l4 : Int32) (n : Nat) (l5 : Int32) (Y : Sm), lp (fun s => fn_27_L63_d1 l1 l2 l3 l4 s.1 s.2) n (l5, Y) = some q2 → Wm 4 0 27 0 63 [(0, aR 39 0), (1, aR 27 l1), (2, aI l2), (3, aI l3), (4, aI l4), (5, aI l5)] [] Y (Rt none o.2) nX := by
        intro l3 l4 n
        induction n with
        | zero => intro l5 Y h; cases h
        | succ n ih11 =>
          intro l5 Y h
          obtain ⟨q9, h, hn10⟩ := lp_succ h
          replace h : fn_27_L63_d1 l1 l2 l3 l4 l5 Y = some q9 := h
          unfold fn_27_L63_d1 at h
          refine w_sg k27 3 (pc' := 69) (ls' := [(0, aR 39 0), (1, aR 27 l1), (2, aI l2), (3, aI l3), (4, aI l4), (5, aI l5)]) (st' := [aI (gI Y.1 39 0 0), aI l5]) (cs' := []) (fun _ => rfl) al0 ?_
          refine w_icmp_ge k27 rfl (fun c => ?_) (fun c => ?_)
          · replace h := if_t c h
            refine w_sg k27 1 (pc' := 97) (ls' := [(0, aR 39 0), (1, aR 27 l1), (2, aI l2), (3, aI (l3 + (nI 1))), (4, aI l4), (5, aI l5)]) (st' := []) (cs' := []) (fun _ => rfl) al0 ?_
            refine w_sg k27 1 (pc' := 12) (ls' := [(0, aR 39 0), (1, aR 27 l1), (2, aI l2), (3, aI (l3 + (nI 1))), (4, aI l4), (5, aI l5)]) (st' := []) (cs' := []) (fun _ => rfl) al0 ?_
            refine w_ls [(0, aR 39 0), (1, aR 27 l1), (2, aI l2), (3, aI (l3 + (nI 1)))] (lq_c rfl (lq_c rfl (lq_c rfl (lq_c rfl lq_n)))) ?_
            obtain rfl := Option.some.inj h
            obtain rfl := lpn_r hn10
            exact ih4 _ _ (lpn_l hn3)
          · replace h := if_f c h
            obtain ⟨hc12, h⟩ := ck_some h
            refine w_sg k27 4 (pc' := 79) (ls' := [(0, aR 39 0), (1, aR 27 l1), (2, aI l2), (3, aI l3), (4, aI l4), (5, aI l5)]) (st' := [aR 45 (ix l4)]) (cs' := [vp_in l4 5]) (fun _ => rfl) (al1 (vin hc12)) ?_
            obtain ⟨hc13, h⟩ := ck_some h
            obtain ⟨hc14, h⟩ := ck_some h
            refine w_sw k27 8 (Z := (sI Y 45 (ix l4) (ix (gI Y.1 27 l1 (ix l5))) ((gI Y.1 45 (ix l4) (ix (gI Y.1 27 l1 (ix l5)))) + l2))) (pc' := 88) (ls' := [(0, aR 39 0), (1, aR 27 l1), (2, aI l2), (3, aI l3), (4, aI l4), (5, aI l5)]) (st' := []) (cs' := [vp_in l5 5, vp_in (gI Y.1 27 l1 (ix l5)) 5, vp_in (gI Y.1 27 l1 (ix l5)) 5, allw 45 (ix l4)]) (fun _ => rfl) rfl (al2 (vin hc13) (al2 (vin hc14) (al2 (vin hc14) (al1 rfl)))) ?_
            replace h := wr_some h
            generalize (sI Y 45 (ix l4) (ix (gI Y.1 27 l1 (ix l5))) ((gI Y.1 45 (ix l4) (ix (gI Y.1 27 l1 (ix l5)))) + l2)) = Y15 at h ⊢
            refine w_sg k27 1 (pc' := 91) (ls' := [(0, aR 39 0), (1, aR 27 l1), (2, aI l2), (3, aI l3), (4, aI l4), (5, aI (l5 + (nI 1)))]) (st' := []) (cs' := []) (fun _ => rfl) al0 ?_
            refine w_sg k27 1 (pc' := 63) (ls' := [(0, aR 39 0), (1, aR 27 l1), (2, aI l2), (3, aI l3), (4, aI l4), (5, aI (l5 + (nI 1)))]) (st' := []) (cs' := []) (fun _ => rfl) al0 ?_
            refine w_ls [(0, aR 39 0), (1, aR 27 l1), (2, aI l2), (3, aI l3), (4, aI l4), (5, aI (l5 + (nI 1)))] (lq_c rfl (lq_c rfl (lq_c rfl (lq_c rfl (lq_c rfl (lq_c rfl lq_n)))))) ?_
            obtain rfl := Option.some.inj h
            exact ih11 _ _ (lpn_l hn10)
      refine w_sg k27 3 (pc' := 17) (ls' := [(0, aR 39 0), (1, aR 27 l1), (2, aI l2), (3, aI l3)]) (st' := [aI (gI Y.1 39 0 0), aI l3]) (cs' := []) (fun _ => rfl) al0 ?_
      refine w_icmp_ge k27 rfl (fun c => ?_) (fun c => ?_)
      · replace h := if_t c h
        obtain rfl := Option.some.inj h
        obtain rfl := lpn_r hn3
        exact w_return k27 ⟨rfl, rfl⟩
      · replace h := if_f c h
        obtain ⟨hc5, h⟩ := ck_some h
        refine w_sg k27 4 (pc' := 25) (ls' := [(0, aR 39 0), (1, aR 27 l1), (2, aI l2), (3, aI l3), (4, aI (gI Y.1 27 l1 (ix l3)))]) (st' := []) (cs' := [vp_in l3 5]) (fun _ => rfl) (al1 (vin hc5)) ?_
        obtain ⟨hc6, h⟩ := ck_some h
        refine w_sg k27 8 (pc' := 38) (ls' := [(0, aR 39 0), (1, aR 27 l1), (2, aI l2), (3, aI l3), (4, aI (gI Y.1 27 l1 (ix l3)))]) (st' := [aI (gI Y.1 39 0 0), aI l2, aI (gI Y.1 40 0 (ix (gI Y.1 27 l1 (ix l3)))), aI (gI Y.1 27 l1 (ix l3)), aR 40 0]) (cs' := [vp_in (gI Y.1 27 l1 (ix l3)) 5]) (fun _ => rfl) (al1 (vin hc6)) ?_
        refine w_sw k27 7 (Z := (sI Y 40 0 (ix (gI Y.1 27 l1 (ix l3))) ((gI Y.1 40 0 (ix (gI Y.1 27 l1 (ix l3)))) + (l2 * (((gI Y.1 39 0 0) - (nI 1)) - l3))))) (pc' := 45) (ls' := [(0, aR 39 0), (1, aR 27 l1), (2, aI l2), (3, aI l3), (4, aI (gI Y.1 27 l1 (ix l3)))]) (st' := []) (cs' := [vp_in (gI Y.1 27 l1 (ix l3)) 5, allw 40 0]) (fun _ => rfl) rfl (al2 (vin hc6) (al1 rfl)) ?_
        replace h := wr_some h
        generalize (sI Y 40 0 (ix (gI Y.1 27 l1 (ix l3))) ((gI Y.1 40 0 (ix (gI Y.1 27 l1 (ix l3)))) + (l2 * (((gI Y.1 39 0 0) - (nI 1)) - l3)))) = Y7 at h ⊢
        refine w_sg k27 4 (pc' := 52) (ls' := [(0, aR 39 0), (1, aR 27 l1), (2, aI l2), (3, aI l3), (4, aI (gI Y.1 27 l1 (ix l3)))]) (st' := [aR 43 (ix (gI Y.1 27 l1 (ix l3)))]) (cs' := [vp_in (gI Y.1 27 l1 (ix l3)) 5]) (fun _ => rfl) (al1 (vin hc6)) ?_
        refine w_sw k27 6 (Z := (sI Y7 43 (ix (gI Y.1 27 l1 (ix l3))) (ix l3) ((gI Y7.1 43 (ix (gI Y.1 27 l1 (ix l3))) (ix l3)) + l2))) (pc' := 58) (ls' := [(0, aR 39 0), (1, aR 27 l1), (2, aI l2), (3, aI l3), (4, aI (gI Y.1 27 l1 (ix l3)))]) (st' := []) (cs' := [vp_in l3 5, vp_in l3 5, allw 43 (ix (gI Y.1 27 l1 (ix l3)))]) (fun _ => rfl) rfl (al2 (vin hc5) (al2 (vin hc5) (al1 rfl))) ?_
        replace h := wr_some h
        generalize (sI Y7 43 (ix (gI Y.1 27 l1 (ix l3))) (ix l3) ((gI Y7.1 43 (ix (gI Y.1 27 l1 (ix l3))) (ix l3)) + l2)) = Y8 at h ⊢
        refine w_sg k27 4 (pc' := 63) (ls' := [(0, aR 39 0), (1, aR 27 l1), (2, aI l2), (3, aI l3), (4, aI (gI Y.1 27 l1 (ix l3))), (5, aI (l3 + (nI 1)))]) (st' := []) (cs' := []) (fun _ => rfl) al0 ?_
        refine w_ls [(0, aR 39 0), (1, aR 27 l1), (2, aI l2), (3, aI l3), (4, aI (gI Y.1 27 l1 (ix l3))), (5, aI (l3 + (nI 1)))] (lq_c rfl (lq_c rfl (lq_c rfl (lq_c rfl (lq_c rfl (lq_c rfl lq_n)))))) ?_
        exact L63_0 _ _ _ _ _ h
  refine w_sw k27 6 (Z := (sI Y 39 0 1 ((gI Y.1 39 0 1) + a2))) (pc' := 10) (ls' := [(0, aR 39 0), (1, aR 27 i1), (2, aI a2)]) (st' := []) (cs' := [allw 39 0]) (fun _ => rfl) rfl (al1 rfl) ?_
  replace h := wr_some h
  generalize (sI Y 39 0 1 ((gI Y.1 39 0 1) + a2)) = Y1 at h ⊢
  refine w_sg k27 2 (pc' := 12) (ls' := [(0, aR 39 0), (1, aR 27 i1), (2, aI a2), (3, aI (nI 0))]) (st' := []) (cs' := []) (fun _ => rfl) al0 ?_
  refine w_ls [(0, aR 39 0), (1, aR 27 i1), (2, aI a2), (3, aI (nI 0))] (lq_c rfl (lq_c rfl (lq_c rfl (lq_c rfl lq_n)))) ?_
  exact L12_0 _ _ _ _ _ h
set_option maxRecDepth 20000 in
set_option maxHeartbeats 4000000 in
/-- BallotBus$Poll.defeats -/
theorem sn_28 (a1 : Int32) (a2 : Int32) {Y : Sm} (v : Int32) (Z : Sm) (h : fn_28 a1 a2 Y = some (v, Z)) : Mt 4 0 28 [aR 39 0, aI a1, aI a2] Y (Rt (some (aI v)) Z) nX := by
  refine Mt_of [(0, aR 39 0), (1, aI a1), (2, aI a2)] ?_
  generalize ho : (v, Z) = o at h
  have hv9 : v = o.1 := congrArg Prod.fst ho
  have hZ9 : Z = o.2 := congrArg Prod.snd ho
  clear ho
  subst hv9 hZ9
  unfold fn_28 at h
  obtain ⟨hc1, h⟩ := ck_some h
  refine w_sg k28 4 (pc' := 6) (ls' := [(0, aR 39 0), (1, aI a1), (2, aI a2)]) (st' := [aR 45 (ix a1)]) (cs' := [vp_in a1 5]) (fun _ => rfl) (al1 (vin hc1)) ?_
  obtain ⟨hc2, h⟩ := ck_some h
  refine w_sg k28 6 (pc' := 14) (ls' := [(0, aR 39 0), (1, aI a1), (2, aI a2)]) (st' := [aR 45 (ix a2), aI (gI Y.1 45 (ix a1) (ix a2))]) (cs' := [vp_in a2 5, vp_in a2 5]) (fun _ => rfl) (al2 (vin hc2) (al1 (vin hc2))) ?_
  refine w_sg k28 2 (pc' := 16) (ls' := [(0, aR 39 0), (1, aI a1), (2, aI a2)]) (st' := [aI (gI Y.1 45 (ix a2) (ix a1)), aI (gI Y.1 45 (ix a1) (ix a2))]) (cs' := [vp_in a1 5]) (fun _ => rfl) (al1 (vin hc1)) ?_
  refine w_icmp_le k28 rfl (fun c => ?_) (fun c => ?_)
  · replace h := if_t c h
    refine w_sg k28 1 (pc' := 24) (ls' := [(0, aR 39 0), (1, aI a1), (2, aI a2)]) (st' := [aI (nI 0)]) (cs' := []) (fun _ => rfl) al0 ?_
    obtain rfl := Option.some.inj h
    exact w_zreturn k28 (Or.inl rfl) ⟨rfl, rfl⟩
  · replace h := if_f c h
    refine w_sg k28 2 (pc' := 24) (ls' := [(0, aR 39 0), (1, aI a1), (2, aI a2)]) (st' := [aI (nI 1)]) (cs' := []) (fun _ => rfl) al0 ?_
    obtain rfl := Option.some.inj h
    exact w_zreturn k28 (Or.inr rfl) ⟨rfl, rfl⟩
set_option maxRecDepth 20000 in
set_option maxHeartbeats 4000000 in
/-- BallotBus$Poll.countVotes -/
theorem sn_25 (i1 : Nat) (a2 : Int32) {Y : Sm} (v : Unit) (Z : Sm) (h : fn_25 i1 a2 Y = some (v, Z)) : Mt 5 0 25 [aR 39 0, aR 21 i1, aI a2] Y (Rt none Z) nX := by
  refine Mt_of [(0, aR 39 0), (1, aR 21 i1), (2, aI a2)] ?_
  generalize ho : (v, Z) = o at h
  have hv9 : v = o.1 := congrArg Prod.fst ho
  have hZ9 : Z = o.2 := congrArg Prod.snd ho
  clear ho
  subst hv9 hZ9
  unfold fn_25 at h
  have L13_0 : ∀ (l1 : Nat) (l2 : Int32) (n : Nat) (l3 : Int32) (Y : Sm) (e6 : (Sm) ⊕ (Unit × Sm)), lp (fun s => fn_25_L13 l1 l2 s.1 s.2) n (l3, Y) = some e6 → (∀ s9 : (Sm), e6 = .inl s9 → Wm 5 0 25 0 62 [(0, aR 39 0)] [] s9 (Rt none o.2) nX) → (∀ r, e6 = .inr r → r = o) → Wm 5 0 25 0 13 [(0, aR 39 0), (1, aR 21 l1), (2, aI l2), (3, aI l3)] [] Y (Rt none o.2) nX := by
    intro l1 l2 n
    induction n with
    | zero => intro l3 Y e6 h; cases h
    | succ n ih5 =>
      intro l3 Y e6 h kE7 kR8
      obtain ⟨q3, h, hn4⟩ := lp_succ h
      replace h : fn_25_L13 l1 l2 l3 Y = some q3 := h
      unfold fn_25_L13 at h
      refine w_sg k25 4 (pc' := 21) (ls' := [(0, aR 39 0), (1, aR 21 l1), (2, aI l2), (3, aI l3)]) (st' := [aI (gI Y.1 5 (Y.2 (l1 + 3)) 3), aI l3]) (cs' := []) (fun _ => rfl) al0 ?_
      refine w_icmp_ge k25 rfl (fun c => ?_) (fun c => ?_)
      · replace h := if_t c h
        refine w_ls [(0, aR 39 0)] (lq_c rfl lq_n) ?_
        obtain rfl := Option.some.inj h
        obtain rfl := lpn_r hn4
        exact kE7 (Y) rfl
      · replace h := if_f c h
        refine w_sg k25 2 (pc' := 26) (ls' := [(0, aR 39 0), (1, aR 21 l1), (2, aI l2), (3, aI l3)]) (st' := [aI l2, aI l3]) (cs' := []) (fun _ => rfl) al0 ?_
        refine w_icmp_eq k25 rfl (fun c => ?_) (fun c => ?_)
        · replace h := if_t c h
          refine w_sg k25 1 (pc' := 59) (ls' := [(0, aR 39 0), (1, aR 21 l1), (2, aI l2), (3, aI (l3 + (nI 1)))]) (st' := []) (cs' := []) (fun _ => rfl) al0 ?_
          refine w_sg k25 1 (pc' := 13) (ls' := [(0, aR 39 0), (1, aR 21 l1), (2, aI l2), (3, aI (l3 + (nI 1)))]) (st' := []) (cs' := []) (fun _ => rfl) al0 ?_
          refine w_ls [(0, aR 39 0), (1, aR 21 l1), (2, aI l2), (3, aI (l3 + (nI 1)))] (lq_c rfl (lq_c rfl (lq_c rfl (lq_c rfl lq_n)))) ?_
          obtain rfl := Option.some.inj h
          exact ih5 _ _ _ (lpn_l hn4) kE7 kR8
        · replace h := if_f c h
          refine w_sg k25 2 (pc' := 31) (ls' := [(0, aR 39 0), (1, aR 21 l1), (2, aI l2), (3, aI l3)]) (st' := [aI l3, aR 21 l1]) (cs' := []) (fun _ => rfl) al0 ?_
          obtain ⟨v11, Y9, hv10, h⟩ := bd_some h
          refine w_cV1 k25 (sn_73 _ _ _ _ hv10) rfl (st := []) rfl ?_ (fun _ _ q => q.elim)
          refine w_if_eq k25 rfl (fun c => ?_) (fun c => ?_)
          · replace h := if_t c h
            refine w_sg k25 1 (pc' := 59) (ls' := [(0, aR 39 0), (1, aR 21 l1), (2, aI l2), (3, aI (l3 + (nI 1)))]) (st' := []) (cs' := []) (fun _ => rfl) al0 ?_
            refine w_sg k25 1 (pc' := 13) (ls' := [(0, aR 39 0), (1, aR 21 l1), (2, aI l2), (3, aI (l3 + (nI 1)))]) (st' := []) (cs' := []) (fun _ => rfl) al0 ?_
            refine w_ls [(0, aR 39 0), (1, aR 21 l1), (2, aI l2), (3, aI (l3 + (nI 1)))] (lq_c rfl (lq_c rfl (lq_c rfl (lq_c rfl lq_n)))) ?_
            obtain rfl := Option.some.inj h
            exact ih5 _ _ _ (lpn_l hn4) kE7 kR8
          · replace h := if_f c h
            obtain ⟨hc12, h⟩ := ck_some h
            refine w_sg k25 5 (pc' := 44) (ls' := [(0, aR 39 0), (1, aR 21 l1), (2, aI l2), (3, aI l3)]) (st' := [aR 27 (8 * l1 + ix l3), aR 39 0]) (cs' := [vp_in l3 8]) (fun _ => rfl) (al1 (vin hc12)) ?_
            refine w_sg k25 5 (pc' := 53) (ls' := [(0, aR 39 0), (1, aR 21 l1), (2, aI l2), (3, aI l3)]) (st' := [aI (gI Y9.1 10 (Y9.2 (l1 + 3)) (ix l3)), aR 27 (8 * l1 + ix l3), aR 39 0]) (cs' := [vp_in l3 8]) (fun _ => rfl) (al1 (vin hc12)) ?_
            obtain ⟨_, Y13, hv14, h⟩ := bd_some h
            refine w_cV0 k25 (sn_27 _ _ _ _ hv14) rfl (st := []) rfl ?_ (fun _ _ q => q.elim)
            refine w_sg k25 1 (pc' := 59) (ls' := [(0, aR 39 0), (1, aR 21 l1), (2, aI l2), (3, aI (l3 + (nI 1)))]) (st' := []) (cs' := []) (fun _ => rfl) al0 ?_
            refine w_sg k25 1 (pc' := 13) (ls' := [(0, aR 39 0), (1, aR 21 l1), (2, aI l2), (3, aI (l3 + (nI 1)))]) (st' := []) (cs' := []) (fun _ => rfl) al0 ?_
            refine w_ls [(0, aR 39 0), (1, aR 21 l1), (2, aI l2), (3, aI (l3 + (nI 1)))] (lq_c rfl (lq_c rfl (lq_c rfl (lq_c rfl lq_n)))) ?_
            obtain rfl := Option.some.inj h
            exact ih5 _ _ _ (lpn_l hn4) kE7 kR8
  have L64_0 : ∀ (n : Nat) (l3 : Int32) (Y : Sm), lp (fun s => fn_25_L64 s.1 s.2) n (l3, Y) = some o → Wm 5 0 25 0 64 [(0, aR 39 0), (3, aI l3)] [] Y (Rt none o.2) nX := by
    intro n
    induction n with
    | zero => intro l3 Y h; cases h
    | succ n ih17 =>
      intro l3 Y h
      obtain ⟨q15, h, hn16⟩ := lp_succ h
      replace h : fn_25_L64 l3 Y = some q15 := h
      unfold fn_25_L64 at h
      have L75_0 : ∀ (l3 : Int32) (n : Nat) (l4 : Int32) (Y : Sm), lp (fun s => fn_25_L75_d1 l3 s.1 s.2) n (l4, Y) = some q15 → Wm 5 0 25 0 75 [(0, aR 39 0), (3, aI l3), (4, aI l4)] [] Y (Rt none o.2) nX := by
        intro l3 n
        induction n with
        | zero => intro l4 Y h; cases h
        | succ n ih20 =>
          intro l4 Y h
          obtain ⟨q18, h, hn19⟩ := lp_succ h
          replace h : fn_25_L75_d1 l3 l4 Y = some q18 := h
          unfold fn_25_L75_d1 at h
          refine w_sg k25 3 (pc' := 81) (ls' := [(0, aR 39 0), (3, aI l3), (4, aI l4)]) (st' := [aI (gI Y.1 39 0 0), aI l4]) (cs' := []) (fun _ => rfl) al0 ?_
          refine w_icmp_ge k25 rfl (fun c => ?_) (fun c => ?_)
          · replace h := if_t c h
            refine w_sg k25 1 (pc' := 113) (ls' := [(0, aR 39 0), (3, aI (l3 + (nI 1))), (4, aI l4)]) (st' := []) (cs' := []) (fun _ => rfl) al0 ?_
            refine w_sg k25 1 (pc' := 64) (ls' := [(0, aR 39 0), (3, aI (l3 + (nI 1))), (4, aI l4)]) (st' := []) (cs' := []) (fun _ => rfl) al0 ?_
            refine w_ls [(0, aR 39 0), (3, aI (l3 + (nI 1)))] (lq_c rfl (lq_c rfl lq_n)) ?_
            obtain rfl := Option.some.inj h
            obtain rfl := lpn_r hn19
            exact ih17 _ _ (lpn_l hn16)
          · replace h := if_f c h
            refine w_sg k25 3 (pc' := 88) (ls' := [(0, aR 39 0), (3, aI l3), (4, aI l4)]) (st' := [aI l4, aI l3, aR 39 0]) (cs' := []) (fun _ => rfl) al0 ?_
            obtain ⟨v23, Y21, hv22, h⟩ := bd_some h
            refine w_cV1 k25 (sn_28 _ _ _ _ hv22) rfl (st := []) rfl ?_ (fun _ _ q => q.elim)
            refine w_if_eq k25 rfl (fun c => ?_) (fun c => ?_)
            · replace h := if_t c h
              refine w_sg k25 1 (pc' := 107) (ls' := [(0, aR 39 0), (3, aI l3), (4, aI (l4 + (nI 1)))]) (st' := []) (cs' := []) (fun _ => rfl) al0 ?_
              refine w_sg k25 1 (pc' := 75) (ls' := [(0, aR 39 0), (3, aI l3), (4, aI (l4 + (nI 1)))]) (st' := []) (cs' := []) (fun _ => rfl) al0 ?_
              refine w_ls [(0, aR 39 0), (3, aI l3), (4, aI (l4 + (nI 1)))] (lq_c rfl (lq_c rfl (lq_c rfl lq_n))) ?_
              obtain rfl := Option.some.inj h
              exact ih20 _ _ (lpn_l hn19)
            · replace h := if_f c h
              obtain ⟨hc24, h⟩ := ck_some h
              refine w_sw k25 8 (Z := (sI Y21 41 0 (ix l3) ((gI Y21.1 41 0 (ix l3)) + (nI 1)))) (pc' := 104) (ls' := [(0, aR 39 0), (3, aI l3), (4, aI l4)]) (st' := []) (cs' := [vp_in l3 5, vp_in l3 5, allw 41 0]) (fun _ => rfl) rfl (al2 (vin hc24) (al2 (vin hc24) (al1 rfl))) ?_
              replace h := wr_some h
              generalize (sI Y21 41 0 (ix l3) ((gI Y21.1 41 0 (ix l3)) + (nI 1))) = Y25 at h ⊢
              refine w_sg k25 1 (pc' := 107) (ls' := [(0, aR 39 0), (3, aI l3), (4, aI (l4 + (nI 1)))]) (st' := []) (cs' := []) (fun _ => rfl) al0 ?_
              refine w_sg k25 1 (pc' := 75) (ls' := [(0, aR 39 0), (3, aI l3), (4, aI (l4 + (nI 1)))]) (st' := []) (cs' := []) (fun _ => rfl) al0 ?_
              refine w_ls [(0, aR 39 0), (3, aI l3), (4, aI (l4 + (nI 1)))] (lq_c rfl (lq_c rfl (lq_c rfl lq_n))) ?_
              obtain rfl := Option.some.inj h
              exact ih20 _ _ (lpn_l hn19)
      refine w_sg k25 3 (pc' := 69) (ls' := [(0, aR 39 0), (3, aI l3)]) (st' := [aI (gI Y.1 39 0 0), aI l3]) (cs' := []) (fun _ => rfl) al0 ?_
      refine w_icmp_ge k25 rfl (fun c => ?_) (fun c => ?_)
      · replace h := if_t c h
        obtain rfl := Option.some.inj h
        obtain rfl := lpn_r hn16
        exact w_return k25 ⟨rfl, rfl⟩
      · replace h := if_f c h
        refine w_sg k25 2 (pc' := 75) (ls' := [(0, aR 39 0), (3, aI l3), (4, aI (nI 0))]) (st' := []) (cs' := []) (fun _ => rfl) al0 ?_
        refine w_ls [(0, aR 39 0), (3, aI l3), (4, aI (nI 0))] (lq_c rfl (lq_c rfl (lq_c rfl lq_n))) ?_
        exact L75_0 _ _ _ _ h
  have J62_0 : ∀ (Y : Sm), fn_25_J62 Y = some o → Wm 5 0 25 0 62 [(0, aR 39 0)] [] Y (Rt none o.2) nX := by
    intro Y h
    unfold fn_25_J62 at h
    refine w_sg k25 2 (pc' := 64) (ls' := [(0, aR 39 0), (3, aI (nI 0))]) (st' := []) (cs' := []) (fun _ => rfl) al0 ?_
    refine w_ls [(0, aR 39 0), (3, aI (nI 0))] (lq_c rfl (lq_c rfl lq_n)) ?_
    exact L64_0 _ _ _ h
  refine w_sg k25 4 (pc' := 8) (ls' := [(0, aR 39 0), (1, aR 21 i1), (2, aI a2)]) (st' := [aI (gI Y.1 5 (Y.2 (i1 + 3)) 0), aR 39 0]) (cs' := []) (fun _ => rfl) al0 ?_
  obtain ⟨_, Y1, hv2, h⟩ := bd_some h
  refine w_cV0 k25 (sn_26 _ _ _ hv2) rfl (st := []) rfl ?_ (fun _ _ q => q.elim)
  refine w_sg k25 2 (pc' := 13) (ls' := [(0, aR 39 0), (1, aR 21 i1), (2, aI a2), (3, aI (nI 0))]) (st' := []) (cs' := []) (fun _ => rfl) al0 ?_
  obtain ⟨e28, hl26, hx27⟩ := exd_some h
  refine w_ls [(0, aR 39 0), (1, aR 21 i1), (2, aI a2), (3, aI (nI 0))] (lq_c rfl (lq_c rfl (lq_c rfl (lq_c rfl lq_n)))) ?_
  refine L13_0 _ _ _ _ _ e28 hl26 (fun s9 hs9 => ?_) (fun r9 hr9 => ?_)
  · subst hs9
    replace h : fn_25_J62 s9 = some o := hx27
    refine w_ls [(0, aR 39 0)] (lq_c rfl lq_n) ?_
    exact J62_0 _ h
  · subst hr9
    exact hx27
set_option maxRecDepth 20000 in
set_option maxHeartbeats 4000000 in
/-- BallotBus.points -/
theorem sn_119 (a1 : Int32) {Y : Sm} (v : (Int32 ⊕ Nat)) (Z : Sm) (h : fn_119 a1 Y = some (v, Z)) : Mt 7 1 119 [aR 0 0, aI a1] Y (Pz (fun v => some (aI v)) v Z) (Ez v Z) := by
  refine Mt_of [(0, aR 0 0), (1, aI a1)] ?_
  generalize ho : (v, Z) = o at h
  have hv9 : v = o.1 := congrArg Prod.fst ho
  have hZ9 : Z = o.2 := congrArg Prod.snd ho
  clear ho
  subst hv9 hZ9
  unfold fn_119 at h
  refine w_sg k119 2 (pc' := 2) (ls' := [(0, aR 0 0), (1, aI a1)]) (st' := [aI a1, aR 0 0]) (cs' := []) (fun _ => rfl) al0 ?_
  obtain ⟨o7, Y1, hv2, ⟨_, ho8, h⟩ | ⟨x6, ho8, h⟩⟩ := bx_some h
  · subst ho8
    refine w_cV0 k119 (sn_155 _ _ _ hv2) rfl (st := []) rfl ?_ (fun _ _ q => q.elim)
    refine w_sg k119 5 (pc' := 14) (ls' := [(0, aR 0 0), (1, aI a1)]) (st' := [aI (-1 : Int32), aR 21 0, aR 39 0]) (cs' := []) (fun _ => rfl) al0 ?_
    obtain ⟨_, Y3, hv4, h⟩ := bd_some h
    refine w_cV0 k119 (sn_25 _ _ _ _ hv4) rfl (st := []) rfl ?_ (fun _ _ q => q.elim)
    obtain ⟨hc5, h⟩ := ck_some h
    refine w_sg k119 5 (pc' := 26) (ls' := [(0, aR 0 0), (1, aI a1)]) (st' := [aI (gI Y3.1 40 0 (ix a1))]) (cs' := [vp_in a1 5]) (fun _ => rfl) (al1 (vin hc5)) ?_
    obtain rfl := Option.some.inj h
    exact w_ireturn k119 Pz_l
  · subst ho8
    obtain rfl := Option.some.inj h
    exact w_xcallV k119 (sn_155 _ _ _ hv2) rfl (st := []) rfl Ez_r
set_option maxRecDepth 20000 in
set_option maxHeartbeats 4000000 in
/-- BallotBus.firsts -/
theorem sn_120 (a1 : Int32) (a2 : Int32) {Y : Sm} (v : (Int32 ⊕ Nat)) (Z : Sm) (h : fn_120 a1 a2 Y = some (v, Z)) : Mt 7 2 120 [aR 0 0, aI a1, aI a2] Y (Pz (fun v => some (aI v)) v Z) (Ez v Z) := by
  refine Mt_of [(0, aR 0 0), (1, aI a1), (2, aI a2)] ?_
  generalize ho : (v, Z) = o at h
  have hv9 : v = o.1 := congrArg Prod.fst ho
  have hZ9 : Z = o.2 := congrArg Prod.snd ho
  clear ho
  subst hv9 hZ9
  unfold fn_120 at h
  refine w_sg k120 2 (pc' := 2) (ls' := [(0, aR 0 0), (1, aI a1), (2, aI a2)]) (st' := [aI a1, aR 0 0]) (cs' := []) (fun _ => rfl) al0 ?_
  obtain ⟨o13, Y1, hv2, ⟨_, ho14, h⟩ | ⟨x12, ho14, h⟩⟩ := bx_some h
  · subst ho14
    refine w_cV0 k120 (sn_155 _ _ _ hv2) rfl (st := []) rfl ?_ (fun _ _ q => q.elim)
    refine w_sg k120 2 (pc' := 7) (ls' := [(0, aR 0 0), (1, aI a1), (2, aI a2)]) (st' := [aI a2, aR 0 0]) (cs' := []) (fun _ => rfl) al0 ?_
    obtain ⟨o10, Y3, hv4, ⟨_, ho11, h⟩ | ⟨x9, ho11, h⟩⟩ := bx_some h
    · subst ho11
      refine w_cV0 k120 (sn_155 _ _ _ hv4) rfl (st := []) rfl ?_ (fun _ _ q => q.elim)
      refine w_sg k120 5 (pc' := 19) (ls' := [(0, aR 0 0), (1, aI a1), (2, aI a2)]) (st' := [aI (-1 : Int32), aR 21 0, aR 39 0]) (cs' := []) (fun _ => rfl) al0 ?_
      obtain ⟨_, Y5, hv6, h⟩ := bd_some h
      refine w_cV0 k120 (sn_25 _ _ _ _ hv6) rfl (st := []) rfl ?_ (fun _ _ q => q.elim)
      obtain ⟨hc7, h⟩ := ck_some h
      refine w_sg k120 5 (pc' := 31) (ls' := [(0, aR 0 0), (1, aI a1), (2, aI a2)]) (st' := [aR 43 (ix a1)]) (cs' := [vp_in a1 5]) (fun _ => rfl) (al1 (vin hc7)) ?_
      obtain ⟨hc8, h⟩ := ck_some h
      refine w_sg k120 2 (pc' := 33) (ls' := [(0, aR 0 0), (1, aI a1), (2, aI a2)]) (st' := [aI (gI Y5.1 43 (ix a1) (ix a2))]) (cs' := [vp_in a2 5]) (fun _ => rfl) (al1 (vin hc8)) ?_
      obtain rfl := Option.some.inj h
      exact w_ireturn k120 Pz_l
    · subst ho11
      obtain rfl := Option.some.inj h
      exact w_xcallV k120 (sn_155 _ _ _ hv4) rfl (st := []) rfl Ez_r
  · subst ho14
    obtain rfl := Option.some.inj h
    exact w_xcallV k120 (sn_155 _ _ _ hv2) rfl (st := []) rfl Ez_r
set_option maxRecDepth 20000 in
set_option maxHeartbeats 4000000 in
/-- BallotBus.beats -/
theorem sn_121 (a1 : Int32) (a2 : Int32) {Y : Sm} (v : (Int32 ⊕ Nat)) (Z : Sm) (h : fn_121 a1 a2 Y = some (v, Z)) : Mt 7 2 121 [aR 0 0, aI a1, aI a2] Y (Pz (fun v => some (aI v)) v Z) (Ez v Z) := by
  refine Mt_of [(0, aR 0 0), (1, aI a1), (2, aI a2)] ?_
  generalize ho : (v, Z) = o at h
  have hv9 : v = o.1 := congrArg Prod.fst ho
  have hZ9 : Z = o.2 := congrArg Prod.snd ho
  clear ho
  subst hv9 hZ9
  unfold fn_121 at h
  refine w_sg k121 2 (pc' := 2) (ls' := [(0, aR 0 0), (1, aI a1), (2, aI a2)]) (st' := [aI a1, aR 0 0]) (cs' := []) (fun _ => rfl) al0 ?_
  obtain ⟨o15, Y1, hv2, ⟨_, ho16, h⟩ | ⟨x14, ho16, h⟩⟩ := bx_some h
  · subst ho16
    refine w_cV0 k121 (sn_155 _ _ _ hv2) rfl (st := []) rfl ?_ (fun _ _ q => q.elim)
    refine w_sg k121 2 (pc' := 7) (ls' := [(0, aR 0 0), (1, aI a1), (2, aI a2)]) (st' := [aI a2, aR 0 0]) (cs' := []) (fun _ => rfl) al0 ?_
    obtain ⟨o12, Y3, hv4, ⟨_, ho13, h⟩ | ⟨x11, ho13, h⟩⟩ := bx_some h
    · subst ho13
      refine w_cV0 k121 (sn_155 _ _ _ hv4) rfl (st := []) rfl ?_ (fun _ _ q => q.elim)
      refine w_sg k121 5 (pc' := 19) (ls' := [(0, aR 0 0), (1, aI a1), (2, aI a2)]) (st' := [aI (-1 : Int32), aR 21 0, aR 39 0]) (cs' := []) (fun _ => rfl) al0 ?_
      obtain ⟨_, Y5, hv6, h⟩ := bd_some h
      refine w_cV0 k121 (sn_25 _ _ _ _ hv6) rfl (st := []) rfl ?_ (fun _ _ q => q.elim)
      refine w_sg k121 4 (pc' := 28) (ls' := [(0, aR 0 0), (1, aI a1), (2, aI a2)]) (st' := [aI a2, aI a1, aR 39 0]) (cs' := []) (fun _ => rfl) al0 ?_
      obtain ⟨v9, Y7, hv8, h⟩ := bd_some h
      refine w_cV1 k121 (sn_28 _ _ _ _ hv8) rfl (st := []) rfl ?_ (fun _ _ q => q.elim)
      obtain ⟨hc10, h⟩ := ck_some h
      obtain rfl := Option.some.inj h
      exact w_zreturn k121 (bz_or hc10) Pz_l
    · subst ho13
      obtain rfl := Option.some.inj h
      exact w_xcallV k121 (sn_155 _ _ _ hv4) rfl (st := []) rfl Ez_r
  · subst ho16
    obtain rfl := Option.some.inj h
    exact w_xcallV k121 (sn_155 _ _ _ hv2) rfl (st := []) rfl Ez_r
set_option maxRecDepth 20000 in
set_option maxHeartbeats 4000000 in
/-- BallotBus.wins -/
theorem sn_122 (a1 : Int32) {Y : Sm} (v : (Int32 ⊕ Nat)) (Z : Sm) (h : fn_122 a1 Y = some (v, Z)) : Mt 7 1 122 [aR 0 0, aI a1] Y (Pz (fun v => some (aI v)) v Z) (Ez v Z) := by
  refine Mt_of [(0, aR 0 0), (1, aI a1)] ?_
  generalize ho : (v, Z) = o at h
  have hv9 : v = o.1 := congrArg Prod.fst ho
  have hZ9 : Z = o.2 := congrArg Prod.snd ho
  clear ho
  subst hv9 hZ9
  unfold fn_122 at h
  refine w_sg k122 2 (pc' := 2) (ls' := [(0, aR 0 0), (1, aI a1)]) (st' := [aI a1, aR 0 0]) (cs' := []) (fun _ => rfl) al0 ?_
  obtain ⟨o7, Y1, hv2, ⟨_, ho8, h⟩ | ⟨x6, ho8, h⟩⟩ := bx_some h
  · subst ho8
    refine w_cV0 k122 (sn_155 _ _ _ hv2) rfl (st := []) rfl ?_ (fun _ _ q => q.elim)
    refine w_sg k122 5 (pc' := 14) (ls' := [(0, aR 0 0), (1, aI a1)]) (st' := [aI (-1 : Int32), aR 21 0, aR 39 0]) (cs' := []) (fun _ => rfl) al0 ?_
    obtain ⟨_, Y3, hv4, h⟩ := bd_some h
    refine w_cV0 k122 (sn_25 _ _ _ _ hv4) rfl (st := []) rfl ?_ (fun _ _ q => q.elim)
    obtain ⟨hc5, h⟩ := ck_some h
    refine w_sg k122 5 (pc' := 26) (ls' := [(0, aR 0 0), (1, aI a1)]) (st' := [aI (gI Y3.1 41 0 (ix a1))]) (cs' := [vp_in a1 5]) (fun _ => rfl) (al1 (vin hc5)) ?_
    obtain rfl := Option.some.inj h
    exact w_ireturn k122 Pz_l
  · subst ho8
    obtain rfl := Option.some.inj h
    exact w_xcallV k122 (sn_155 _ _ _ hv2) rfl (st := []) rfl Ez_r
set_option maxRecDepth 20000 in
set_option maxHeartbeats 4000000 in
/-- BallotBus.champion -/
theorem sn_123 {Y : Sm} (v : Int32) (Z : Sm) (h : fn_123 Y = some (v, Z)) : Mt 6 0 123 [aR 0 0] Y (Rt (some (aI v)) Z) nX := by
  refine Mt_of [(0, aR 0 0)] ?_
  generalize ho : (v, Z) = o at h
  have hv9 : v = o.1 := congrArg Prod.fst ho
  have hZ9 : Z = o.2 := congrArg Prod.snd ho
  clear ho
  subst hv9 hZ9
  unfold fn_123 at h
  have L26_0 : ∀ (n : Nat) (l1 : Int32) (Y : Sm), lp (fun s => fn_123_L26 s.1 s.2) n (l1, Y) = some o → Wm 6 0 123 0 26 [(0, aR 0 0), (1, aI l1)] [] Y (Rt (some (aI o.1)) o.2) nX := by
    intro n
    induction n with
    | zero => intro l1 Y h; cases h
    | succ n ih5 =>
      intro l1 Y h
      obtain ⟨q3, h, hn4⟩ := lp_succ h
      replace h : fn_123_L26 l1 Y = some q3 := h
      unfold fn_123_L26 at h
      refine w_sg k123 4 (pc' := 34) (ls' := [(0, aR 0 0), (1, aI l1)]) (st' := [aI (gI Y.1 5 (Y.2 0) 0), aI l1]) (cs' := []) (fun _ => rfl) al0 ?_
      refine w_icmp_ge k123 rfl (fun c => ?_) (fun c => ?_)
      · replace h := if_t c h
        refine w_sg k123 1 (pc' := 67) (ls' := [(0, aR 0 0), (1, aI l1)]) (st' := [aI (-1 : Int32)]) (cs' := []) (fun _ => rfl) al0 ?_
        obtain rfl := Option.some.inj h
        obtain rfl := lpn_r hn4
        exact w_ireturn k123 ⟨rfl, rfl⟩
      · replace h := if_f c h
        obtain ⟨hc6, h⟩ := ck_some h
        refine w_sg k123 8 (pc' := 53) (ls' := [(0, aR 0 0), (1, aI l1)]) (st' := [aI (gI Y.1 5 (Y.2 0) 0), aI (gI Y.1 41 0 (ix l1))]) (cs' := [vp_in l1 5]) (fun _ => rfl) (al1 (vin hc6)) ?_
        refine w_sg k123 2 (pc' := 55) (ls' := [(0, aR 0 0), (1, aI l1)]) (st' := [aI ((gI Y.1 5 (Y.2 0) 0) - (nI 1)), aI (gI Y.1 41 0 (ix l1))]) (cs' := []) (fun _ => rfl) al0 ?_
        refine w_icmp_ne k123 rfl (fun c => ?_) (fun c => ?_)
        · replace h := if_f c h
          refine w_sg k123 1 (pc' := 63) (ls' := [(0, aR 0 0), (1, aI (l1 + (nI 1)))]) (st' := []) (cs' := []) (fun _ => rfl) al0 ?_
          refine w_sg k123 1 (pc' := 26) (ls' := [(0, aR 0 0), (1, aI (l1 + (nI 1)))]) (st' := []) (cs' := []) (fun _ => rfl) al0 ?_
          refine w_ls [(0, aR 0 0), (1, aI (l1 + (nI 1)))] (lq_c rfl (lq_c rfl lq_n)) ?_
          obtain rfl := Option.some.inj h
          exact ih5 _ _ (lpn_l hn4)
        · replace h := if_t c h
          refine w_sg k123 1 (pc' := 59) (ls' := [(0, aR 0 0), (1, aI l1)]) (st' := [aI l1]) (cs' := []) (fun _ => rfl) al0 ?_
          obtain rfl := Option.some.inj h
          obtain rfl := lpn_r hn4
          exact w_ireturn k123 ⟨rfl, rfl⟩
  refine w_sg k123 5 (pc' := 9) (ls' := [(0, aR 0 0)]) (st' := [aI (-1 : Int32), aR 21 0, aR 39 0]) (cs' := []) (fun _ => rfl) al0 ?_
  obtain ⟨_, Y1, hv2, h⟩ := bd_some h
  refine w_cV0 k123 (sn_25 _ _ _ _ hv2) rfl (st := []) rfl ?_ (fun _ _ q => q.elim)
  refine w_sg k123 3 (pc' := 19) (ls' := [(0, aR 0 0)]) (st' := [aI (gI Y1.1 39 0 1)]) (cs' := []) (fun _ => rfl) al0 ?_
  refine w_if_ne k123 rfl (fun c => ?_) (fun c => ?_)
  · replace h := if_f c h
    refine w_sg k123 2 (pc' := 26) (ls' := [(0, aR 0 0), (1, aI (nI 0))]) (st' := []) (cs' := []) (fun _ => rfl) al0 ?_
    refine w_ls [(0, aR 0 0), (1, aI (nI 0))] (lq_c rfl (lq_c rfl lq_n)) ?_
    exact L26_0 _ _ _ h
  · replace h := if_t c h
    refine w_sg k123 1 (pc' := 23) (ls' := [(0, aR 0 0)]) (st' := [aI (-1 : Int32)]) (cs' := []) (fun _ => rfl) al0 ?_
    obtain rfl := Option.some.inj h
    exact w_ireturn k123 ⟨rfl, rfl⟩
set_option maxRecDepth 20000 in
set_option maxHeartbeats 4000000 in
/-- BallotBus.checkTally -/
theorem sn_156 (a1 : Int32) {Y : Sm} (v : (Unit ⊕ Nat)) (Z : Sm) (h : fn_156 a1 Y = some (v, Z)) : Mt 6 1 156 [aR 0 0, aI a1] Y (Pz (fun _ => none) v Z) (Ez v Z) := by
  refine Mt_of [(0, aR 0 0), (1, aI a1)] ?_
  generalize ho : (v, Z) = o at h
  have hv9 : v = o.1 := congrArg Prod.fst ho
  have hZ9 : Z = o.2 := congrArg Prod.snd ho
  clear ho
  subst hv9 hZ9
  unfold fn_156 at h
  refine w_sg k156 1 (pc' := 1) (ls' := [(0, aR 0 0), (1, aI a1)]) (st' := [aI a1]) (cs' := []) (fun _ => rfl) al0 ?_
  refine w_if_lt k156 rfl (fun c => ?_) (fun c => ?_)
  · replace h := if_t c h
    obtain rfl := Option.some.inj h
    exact w_throw k156 rfl rfl Ez_r
  · replace h := if_f c h
    refine w_sg k156 2 (pc' := 6) (ls' := [(0, aR 0 0), (1, aI a1)]) (st' := [aI (nI 2), aI a1]) (cs' := []) (fun _ => rfl) al0 ?_
    refine w_icmp_le k156 rfl (fun c => ?_) (fun c => ?_)
    · replace h := if_t c h
      obtain rfl := Option.some.inj h
      exact w_return k156 Pz_l
    · replace h := if_f c h
      obtain rfl := Option.some.inj h
      exact w_throw k156 rfl rfl Ez_r
set_option maxRecDepth 20000 in
set_option maxHeartbeats 4000000 in
/-- BallotBus$Rows.copy -/
theorem sn_44_22_46 (i0 : Nat) {Y : Sm} (v : Unit) (Z : Sm) (h : fn_44_22_46 i0 Y = some (v, Z)) : Mt 4 0 44 [aR 22 i0, aR 46 0] Y (Rt none Z) nX := by
  refine Mt_of [(0, aR 22 i0), (1, aR 46 0)] ?_
  generalize ho : (v, Z) = o at h
  have hv9 : v = o.1 := congrArg Prod.fst ho
  have hZ9 : Z = o.2 := congrArg Prod.snd ho
  clear ho
  subst hv9 hZ9
  unfold fn_44_22_46 at h
  refine w_sg k44 8 (pc' := 8) (ls' := [(0, aR 22 i0), (1, aR 46 0)]) (st' := [aI (nI 5), aI (nI 5), aI (nI 0), aR 46 0, aI (nI 0), aR 22 i0]) (cs' := []) (fun _ => rfl) al0 ?_
  refine w_sw k44 2 (Z := (sC Y 22 i0 0 46 0 0 5)) (pc' := 14) (ls' := [(0, aR 22 i0), (1, aR 46 0)]) (st' := []) (cs' := [¬ (nI 0) < 0, ¬ (nI 0) < 0, ¬ (nI 5) < 0, 0 + 5 ≤ 5, 0 + 5 ≤ 5, allw 46 0]) (fun _ => rfl) rfl (al2 (by decide) (al2 (by decide) (al2 (by decide) (al2 (by decide) (al2 (by decide) (al1 rfl)))))) ?_
  replace h := wr_some h
  generalize (sC Y 22 i0 0 46 0 0 5) = Y1 at h ⊢
  obtain rfl := Option.some.inj h
  exact w_return k44 ⟨rfl, rfl⟩
set_option maxRecDepth 20000 in
set_option maxHeartbeats 4000000 in
/-- BallotBus$Poll.hasMoreFirsts -/
theorem sn_32 (a1 : Int32) (a2 : Int32) {Y : Sm} (v : Int32) (Z : Sm) (h : fn_32 a1 a2 Y = some (v, Z)) : Mt 4 0 32 [aR 39 0, aI a1, aI a2] Y (Rt (some (aI v)) Z) nX := by
  refine Mt_of [(0, aR 39 0), (1, aI a1), (2, aI a2)] ?_
  generalize ho : (v, Z) = o at h
  have hv9 : v = o.1 := congrArg Prod.fst ho
  have hZ9 : Z = o.2 := congrArg Prod.snd ho
  clear ho
  subst hv9 hZ9
  unfold fn_32 at h
  have L2_0 : ∀ (l1 : Int32) (l2 : Int32) (n : Nat) (l3 : Int32) (Y : Sm) (e4 : (Int32 × Sm) ⊕ (Int32 × Sm)), lp (fun s => fn_32_L2 l1 l2 s.1 s.2) n (l3, Y) = some e4 → (∀ s9 : (Int32 × Sm), e4 = .inl s9 → Wm 4 0 32 0 29 [(0, aR 39 0), (1, aI l1), (2, aI l2), (3, aI s9.1)] [] s9.2 (Rt (some (aI o.1)) o.2) nX) → (∀ r, e4 = .inr r → r = o) → Wm 4 0 32 0 2 [(0, aR 39 0), (1, aI l1), (2, aI l2), (3, aI l3)] [] Y (Rt (some (aI o.1)) o.2) nX := by
    intro l1 l2 n
    induction n with
    | zero => intro l3 Y e4 h; cases h
    | succ n ih3 =>
      intro l3 Y e4 h kE5 kR6
      obtain ⟨q1, h, hn2⟩ := lp_succ h
      replace h : fn_32_L2 l1 l2 l3 Y = some q1 := h
      unfold fn_32_L2 at h
      refine w_sg k32 3 (pc' := 7) (ls' := [(0, aR 39 0), (1, aI l1), (2, aI l2), (3, aI l3)]) (st' := [aI (gI Y.1 39 0 0), aI l3]) (cs' := []) (fun _ => rfl) al0 ?_
      refine w_icmp_ge k32 rfl (fun c => ?_) (fun c => ?_)
      · replace h := if_t c h
        refine w_sg k32 1 (pc' := 61) (ls' := [(0, aR 39 0), (1, aI l1), (2, aI l2), (3, aI l3)]) (st' := [aI (nI 0)]) (cs' := []) (fun _ => rfl) al0 ?_
        obtain rfl := Option.some.inj h
        obtain rfl := lpn_r hn2
        obtain rfl := kR6 _ rfl
        exact w_zreturn k32 (Or.inl rfl) ⟨rfl, rfl⟩
      · replace h := if_f c h
        obtain ⟨hc7, h⟩ := ck_some h
        refine w_sg k32 4 (pc' := 16) (ls' := [(0, aR 39 0), (1, aI l1), (2, aI l2), (3, aI l3)]) (st' := [aR 43 (ix l1)]) (cs' := [vp_in l1 5]) (fun _ => rfl) (al1 (vin hc7)) ?_
        obtain ⟨hc8, h⟩ := ck_some h
        obtain ⟨hc9, h⟩ := ck_some h
        refine w_sg k32 6 (pc' := 24) (ls' := [(0, aR 39 0), (1, aI l1), (2, aI l2), (3, aI l3)]) (st' := [aR 43 (ix l2), aI (gI Y.1 43 (ix l1) (ix l3))]) (cs' := [vp_in l3 5, vp_in l2 5]) (fun _ => rfl) (al2 (vin hc8) (al1 (vin hc9))) ?_
        refine w_sg k32 2 (pc' := 26) (ls' := [(0, aR 39 0), (1, aI l1), (2, aI l2), (3, aI l3)]) (st' := [aI (gI Y.1 43 (ix l2) (ix l3)), aI (gI Y.1 43 (ix l1) (ix l3))]) (cs' := [vp_in l3 5]) (fun _ => rfl) (al1 (vin hc8)) ?_
        refine w_icmp_eq k32 rfl (fun c => ?_) (fun c => ?_)
        · replace h := if_t c h
          refine w_sg k32 1 (pc' := 57) (ls' := [(0, aR 39 0), (1, aI l1), (2, aI l2), (3, aI (l3 + (nI 1)))]) (st' := []) (cs' := []) (fun _ => rfl) al0 ?_
          refine w_sg k32 1 (pc' := 2) (ls' := [(0, aR 39 0), (1, aI l1), (2, aI l2), (3, aI (l3 + (nI 1)))]) (st' := []) (cs' := []) (fun _ => rfl) al0 ?_
          refine w_ls [(0, aR 39 0), (1, aI l1), (2, aI l2), (3, aI (l3 + (nI 1)))] (lq_c rfl (lq_c rfl (lq_c rfl (lq_c rfl lq_n)))) ?_
          obtain rfl := Option.some.inj h
          exact ih3 _ _ _ (lpn_l hn2) kE5 kR6
        · replace h := if_f c h
          refine w_ls [(0, aR 39 0), (1, aI l1), (2, aI l2), (3, aI l3)] (lq_c rfl (lq_c rfl (lq_c rfl (lq_c rfl lq_n)))) ?_
          obtain rfl := Option.some.inj h
          obtain rfl := lpn_r hn2
          exact kE5 (l3, Y) rfl
  have J29_0 : ∀ (l1 : Int32) (l2 : Int32) (l3 : Int32) (Y : Sm), fn_32_J29 l1 l2 l3 Y = some o → Wm 4 0 32 0 29 [(0, aR 39 0), (1, aI l1), (2, aI l2), (3, aI l3)] [] Y (Rt (some (aI o.1)) o.2) nX := by
    intro l1 l2 l3 Y h
    unfold fn_32_J29 at h
    obtain ⟨hc10, h⟩ := ck_some h
    refine w_sg k32 4 (pc' := 35) (ls' := [(0, aR 39 0), (1, aI l1), (2, aI l2), (3, aI l3)]) (st' := [aR 43 (ix l1)]) (cs' := [vp_in l1 5]) (fun _ => rfl) (al1 (vin hc10)) ?_
    obtain ⟨hc11, h⟩ := ck_some h
    obtain ⟨hc12, h⟩ := ck_some h
    refine w_sg k32 6 (pc' := 43) (ls' := [(0, aR 39 0), (1, aI l1), (2, aI l2), (3, aI l3)]) (st' := [aR 43 (ix l2), aI (gI Y.1 43 (ix l1) (ix l3))]) (cs' := [vp_in l3 5, vp_in l2 5]) (fun _ => rfl) (al2 (vin hc11) (al1 (vin hc12))) ?_
    refine w_sg k32 2 (pc' := 45) (ls' := [(0, aR 39 0), (1, aI l1), (2, aI l2), (3, aI l3)]) (st' := [aI (gI Y.1 43 (ix l2) (ix l3)), aI (gI Y.1 43 (ix l1) (ix l3))]) (cs' := [vp_in l3 5]) (fun _ => rfl) (al1 (vin hc11)) ?_
    refine w_icmp_le k32 rfl (fun c => ?_) (fun c => ?_)
    · replace h := if_t c h
      refine w_sg k32 1 (pc' := 53) (ls' := [(0, aR 39 0), (1, aI l1), (2, aI l2), (3, aI l3)]) (st' := [aI (nI 0)]) (cs' := []) (fun _ => rfl) al0 ?_
      obtain rfl := Option.some.inj h
      exact w_zreturn k32 (Or.inl rfl) ⟨rfl, rfl⟩
    · replace h := if_f c h
      refine w_sg k32 2 (pc' := 53) (ls' := [(0, aR 39 0), (1, aI l1), (2, aI l2), (3, aI l3)]) (st' := [aI (nI 1)]) (cs' := []) (fun _ => rfl) al0 ?_
      obtain rfl := Option.some.inj h
      exact w_zreturn k32 (Or.inr rfl) ⟨rfl, rfl⟩
  refine w_sg k32 2 (pc' := 2) (ls' := [(0, aR 39 0), (1, aI a1), (2, aI a2), (3, aI (nI 0))]) (st' := []) (cs' := []) (fun _ => rfl) al0 ?_
  obtain ⟨e15, hl13, hx14⟩ := exd_some h
  refine w_ls [(0, aR 39 0), (1, aI a1), (2, aI a2), (3, aI (nI 0))] (lq_c rfl (lq_c rfl (lq_c rfl (lq_c rfl lq_n)))) ?_
  refine L2_0 _ _ _ _ _ e15 hl13 (fun s9 hs9 => ?_) (fun r9 hr9 => ?_)
  · subst hs9
    replace h : fn_32_J29 a1 a2 s9.1 s9.2 = some o := hx14
    refine w_ls [(0, aR 39 0), (1, aI a1), (2, aI a2), (3, aI s9.1)] (lq_c rfl (lq_c rfl (lq_c rfl (lq_c rfl lq_n)))) ?_
    exact J29_0 _ _ _ _ h
  · subst hr9
    exact hx14
set_option maxRecDepth 20000 in
set_option maxHeartbeats 4000000 in
/-- BallotBus$Poll.isAbove -/
theorem sn_31 (a1 : Int32) (a2 : Int32) (a3 : Int32) {Y : Sm} (v : Int32) (Z : Sm) (h : fn_31 a1 a2 a3 Y = some (v, Z)) : Mt 5 0 31 [aR 39 0, aI a1, aI a2, aI a3] Y (Rt (some (aI v)) Z) nX := by
  refine Mt_of [(0, aR 39 0), (1, aI a1), (2, aI a2), (3, aI a3)] ?_
  generalize ho : (v, Z) = o at h
  have hv9 : v = o.1 := congrArg Prod.fst ho
  have hZ9 : Z = o.2 := congrArg Prod.snd ho
  clear ho
  subst hv9 hZ9
  unfold fn_31 at h
  have J53_0 : ∀ (l1 : Int32) (l2 : Int32) (Y : Sm), fn_31_J53 l1 l2 Y = some o → Wm 5 0 31 0 53 [(0, aR 39 0), (1, aI l1), (2, aI l2)] [] Y (Rt (some (aI o.1)) o.2) nX := by
    intro l1 l2 Y h
    unfold fn_31_J53 at h
    obtain ⟨hc1, h⟩ := ck_some h
    obtain ⟨hc2, h⟩ := ck_some h
    refine w_sg k31 8 (pc' := 65) (ls' := [(0, aR 39 0), (1, aI l1), (2, aI l2)]) (st' := [aI (gI Y.1 40 0 (ix l2)), aI (gI Y.1 40 0 (ix l1))]) (cs' := [vp_in l1 5, vp_in l2 5]) (fun _ => rfl) (al2 (vin hc1) (al1 (vin hc2))) ?_
    refine w_icmp_le k31 rfl (fun c => ?_) (fun c => ?_)
    · replace h := if_t c h
      refine w_sg k31 1 (pc' := 73) (ls' := [(0, aR 39 0), (1, aI l1), (2, aI l2)]) (st' := [aI (nI 0)]) (cs' := []) (fun _ => rfl) al0 ?_
      obtain rfl := Option.some.inj h
      exact w_zreturn k31 (Or.inl rfl) ⟨rfl, rfl⟩
    · replace h := if_f c h
      refine w_sg k31 2 (pc' := 73) (ls' := [(0, aR 39 0), (1, aI l1), (2, aI l2)]) (st' := [aI (nI 1)]) (cs' := []) (fun _ => rfl) al0 ?_
      obtain rfl := Option.some.inj h
      exact w_zreturn k31 (Or.inr rfl) ⟨rfl, rfl⟩
  refine w_sg k31 2 (pc' := 2) (ls' := [(0, aR 39 0), (1, aI a1), (2, aI a2), (3, aI a3)]) (st' := [aI (nI 1), aI a3]) (cs' := []) (fun _ => rfl) al0 ?_
  refine w_icmp_ne k31 rfl (fun c => ?_) (fun c => ?_)
  · replace h := if_f c h
    refine w_sg k31 2 (pc' := 14) (ls' := [(0, aR 39 0), (1, aI a1), (2, aI a2), (3, aI a3)]) (st' := [aI (nI 2), aI a3]) (cs' := []) (fun _ => rfl) al0 ?_
    refine w_icmp_ne k31 rfl (fun c => ?_) (fun c => ?_)
    · replace h := if_f c h
      refine w_ls [(0, aR 39 0), (1, aI a1), (2, aI a2)] (lq_c rfl (lq_c rfl (lq_c rfl lq_n))) ?_
      exact J53_0 _ _ _ h
    · replace h := if_t c h
      obtain ⟨hc3, h⟩ := ck_some h
      obtain ⟨hc4, h⟩ := ck_some h
      refine w_sg k31 8 (pc' := 29) (ls' := [(0, aR 39 0), (1, aI a1), (2, aI a2), (3, aI a3)]) (st' := [aI (gI Y.1 41 0 (ix a2)), aI (gI Y.1 41 0 (ix a1))]) (cs' := [vp_in a1 5, vp_in a2 5]) (fun _ => rfl) (al2 (vin hc3) (al1 (vin hc4))) ?_
      refine w_icmp_eq k31 rfl (fun c => ?_) (fun c => ?_)
      · replace h := if_t c h
        refine w_ls [(0, aR 39 0), (1, aI a1), (2, aI a2)] (lq_c rfl (lq_c rfl (lq_c rfl lq_n))) ?_
        exact J53_0 _ _ _ h
      · replace h := if_f c h
        refine w_sg k31 8 (pc' := 44) (ls' := [(0, aR 39 0), (1, aI a1), (2, aI a2), (3, aI a3)]) (st' := [aI (gI Y.1 41 0 (ix a2)), aI (gI Y.1 41 0 (ix a1))]) (cs' := [vp_in a1 5, vp_in a2 5]) (fun _ => rfl) (al2 (vin hc3) (al1 (vin hc4))) ?_
        refine w_icmp_le k31 rfl (fun c => ?_) (fun c => ?_)
        · replace h := if_t c h
          refine w_sg k31 1 (pc' := 52) (ls' := [(0, aR 39 0), (1, aI a1), (2, aI a2), (3, aI a3)]) (st' := [aI (nI 0)]) (cs' := []) (fun _ => rfl) al0 ?_
          obtain rfl := Option.some.inj h
          exact w_zreturn k31 (Or.inl rfl) ⟨rfl, rfl⟩
        · replace h := if_f c h
          refine w_sg k31 2 (pc' := 52) (ls' := [(0, aR 39 0), (1, aI a1), (2, aI a2), (3, aI a3)]) (st' := [aI (nI 1)]) (cs' := []) (fun _ => rfl) al0 ?_
          obtain rfl := Option.some.inj h
          exact w_zreturn k31 (Or.inr rfl) ⟨rfl, rfl⟩
  · replace h := if_t c h
    refine w_sg k31 3 (pc' := 8) (ls' := [(0, aR 39 0), (1, aI a1), (2, aI a2), (3, aI a3)]) (st' := [aI a2, aI a1, aR 39 0]) (cs' := []) (fun _ => rfl) al0 ?_
    obtain ⟨v7, Y5, hv6, h⟩ := bd_some h
    refine w_cV1 k31 (sn_32 _ _ _ _ hv6) rfl (st := []) rfl ?_ (fun _ _ q => q.elim)
    obtain ⟨hc8, h⟩ := ck_some h
    obtain rfl := Option.some.inj h
    exact w_zreturn k31 (bz_or hc8) ⟨rfl, rfl⟩
set_option maxRecDepth 20000 in
set_option maxHeartbeats 4000000 in
/-- BallotBus$Poll.rank -/
theorem sn_30_39_46 (a1 : Int32) {Y : Sm} (v : Unit) (Z : Sm) (h : fn_30_39_46 a1 Y = some (v, Z)) : Mt 6 0 30 [aR 39 0, aI a1, aR 46 0] Y (Rt none Z) nX := by
  refine Mt_of [(0, aR 39 0), (1, aI a1), (2, aR 46 0)] ?_
  generalize ho : (v, Z) = o at h
  have hv9 : v = o.1 := congrArg Prod.fst ho
  have hZ9 : Z = o.2 := congrArg Prod.snd ho
  clear ho
  subst hv9 hZ9
  unfold fn_30_39_46 at h
  have L10_0 : ∀ (l1 : Int32) (n : Nat) (l3 : Int32) (Y : Sm), lp (fun s => fn_30_39_46_L10 l1 s.1 s.2) n (l3, Y) = some o → Wm 6 0 30 0 10 [(0, aR 39 0), (1, aI l1), (2, aR 46 0), (3, aI l3)] [] Y (Rt none o.2) nX := by
    intro l1 n
    induction n with
    | zero => intro l3 Y h; cases h
    | succ n ih3 =>
      intro l3 Y h
      obtain ⟨q1, h, hn2⟩ := lp_succ h
      replace h : fn_30_39_46_L10 l1 l3 Y = some q1 := h
      unfold fn_30_39_46_L10 at h
      have L21_0 : ∀ (l3 : Int32) (n : Nat) (l4 : Int32) (Y : Sm), lp (fun s => fn_30_39_46_L21_d1 l1 l3 s.1 s.2) n (l4, Y) = some q1 → Wm 6 0 30 0 21 [(0, aR 39 0), (1, aI l1), (2, aR 46 0), (3, aI l3), (4, aI l4)] [] Y (Rt none o.2) nX := by
        intro l3 n
        induction n with
        | zero => intro l4 Y h; cases h
        | succ n ih6 =>
          intro l4 Y h
          obtain ⟨q4, h, hn5⟩ := lp_succ h
          replace h : fn_30_39_46_L21_d1 l1 l3 l4 Y = some q4 := h
          unfold fn_30_39_46_L21_d1 at h
          refine w_sg k30 1 (pc' := 23) (ls' := [(0, aR 39 0), (1, aI l1), (2, aR 46 0), (3, aI l3), (4, aI l4)]) (st' := [aI l4]) (cs' := []) (fun _ => rfl) al0 ?_
          refine w_if_le k30 rfl (fun c => ?_) (fun c => ?_)
          · replace h := if_t c h
            obtain ⟨hc7, h⟩ := ck_some h
            refine w_sw k30 4 (Z := (sI Y 46 0 (ix l4) l3)) (pc' := 62) (ls' := [(0, aR 39 0), (1, aI l1), (2, aR 46 0), (3, aI l3), (4, aI l4)]) (st' := []) (cs' := [vp_in l4 5, allw 46 0]) (fun _ => rfl) rfl (al2 (vin hc7) (al1 rfl)) ?_
            replace h := wr_some h
            generalize (sI Y 46 0 (ix l4) l3) = Y8 at h ⊢
            refine w_sg k30 1 (pc' := 65) (ls' := [(0, aR 39 0), (1, aI l1), (2, aR 46 0), (3, aI (l3 + (nI 1))), (4, aI l4)]) (st' := []) (cs' := []) (fun _ => rfl) al0 ?_
            refine w_sg k30 1 (pc' := 10) (ls' := [(0, aR 39 0), (1, aI l1), (2, aR 46 0), (3, aI (l3 + (nI 1))), (4, aI l4)]) (st' := []) (cs' := []) (fun _ => rfl) al0 ?_
            refine w_ls [(0, aR 39 0), (1, aI l1), (2, aR 46 0), (3, aI (l3 + (nI 1)))] (lq_c rfl (lq_c rfl (lq_c rfl (lq_c rfl lq_n)))) ?_
            obtain rfl := Option.some.inj h
            obtain rfl := lpn_r hn5
            exact ih3 _ _ (lpn_l hn2)
          · replace h := if_f c h
            obtain ⟨hc9, h⟩ := ck_some h
            refine w_sg k30 8 (pc' := 35) (ls' := [(0, aR 39 0), (1, aI l1), (2, aR 46 0), (3, aI l3), (4, aI l4)]) (st' := [aI l1, aI (gI Y.1 46 0 (ix (l4 - (nI 1)))), aI l3, aR 39 0]) (cs' := [vp_in (l4 - (nI 1)) 5]) (fun _ => rfl) (al1 (vin hc9)) ?_
            obtain ⟨v12, Y10, hv11, h⟩ := bd_some h
            refine w_cV1 k30 (sn_31 _ _ _ _ _ hv11) rfl (st := []) rfl ?_ (fun _ _ q => q.elim)
            refine w_if_eq k30 rfl (fun c => ?_) (fun c => ?_)
            · replace h := if_t c h
              obtain ⟨hc13, h⟩ := ck_some h
              refine w_sw k30 4 (Z := (sI Y10 46 0 (ix l4) l3)) (pc' := 62) (ls' := [(0, aR 39 0), (1, aI l1), (2, aR 46 0), (3, aI l3), (4, aI l4)]) (st' := []) (cs' := [vp_in l4 5, allw 46 0]) (fun _ => rfl) rfl (al2 (vin hc13) (al1 rfl)) ?_
              replace h := wr_some h
              generalize (sI Y10 46 0 (ix l4) l3) = Y14 at h ⊢
              refine w_sg k30 1 (pc' := 65) (ls' := [(0, aR 39 0), (1, aI l1), (2, aR 46 0), (3, aI (l3 + (nI 1))), (4, aI l4)]) (st' := []) (cs' := []) (fun _ => rfl) al0 ?_
              refine w_sg k30 1 (pc' := 10) (ls' := [(0, aR 39 0), (1, aI l1), (2, aR 46 0), (3, aI (l3 + (nI 1))), (4, aI l4)]) (st' := []) (cs' := []) (fun _ => rfl) al0 ?_
              refine w_ls [(0, aR 39 0), (1, aI l1), (2, aR 46 0), (3, aI (l3 + (nI 1)))] (lq_c rfl (lq_c rfl (lq_c rfl (lq_c rfl lq_n)))) ?_
              obtain rfl := Option.some.inj h
              obtain rfl := lpn_r hn5
              exact ih3 _ _ (lpn_l hn2)
            · replace h := if_f c h
              obtain ⟨hc15, h⟩ := ck_some h
              refine w_sw k30 8 (Z := (sI Y10 46 0 (ix l4) (gI Y10.1 46 0 (ix (l4 - (nI 1)))))) (pc' := 51) (ls' := [(0, aR 39 0), (1, aI l1), (2, aR 46 0), (3, aI l3), (4, aI l4)]) (st' := []) (cs' := [vp_in (l4 - (nI 1)) 5, vp_in l4 5, allw 46 0]) (fun _ => rfl) rfl (al2 (vin hc9) (al2 (vin hc15) (al1 rfl))) ?_
              replace h := wr_some h
              generalize (sI Y10 46 0 (ix l4) (gI Y10.1 46 0 (ix (l4 - (nI 1))))) = Y16 at h ⊢
              refine w_sg k30 1 (pc' := 54) (ls' := [(0, aR 39 0), (1, aI l1), (2, aR 46 0), (3, aI l3), (4, aI (l4 + (-1 : Int32)))]) (st' := []) (cs' := []) (fun _ => rfl) al0 ?_
              refine w_sg k30 1 (pc' := 21) (ls' := [(0, aR 39 0), (1, aI l1), (2, aR 46 0), (3, aI l3), (4, aI (l4 + (-1 : Int32)))]) (st' := []) (cs' := []) (fun _ => rfl) al0 ?_
              refine w_ls [(0, aR 39 0), (1, aI l1), (2, aR 46 0), (3, aI l3), (4, aI (l4 + (-1 : Int32)))] (lq_c rfl (lq_c rfl (lq_c rfl (lq_c rfl (lq_c rfl lq_n))))) ?_
              obtain rfl := Option.some.inj h
              exact ih6 _ _ (lpn_l hn5)
      refine w_sg k30 3 (pc' := 15) (ls' := [(0, aR 39 0), (1, aI l1), (2, aR 46 0), (3, aI l3)]) (st' := [aI (gI Y.1 39 0 0), aI l3]) (cs' := []) (fun _ => rfl) al0 ?_
      refine w_icmp_ge k30 rfl (fun c => ?_) (fun c => ?_)
      · replace h := if_t c h
        obtain rfl := Option.some.inj h
        obtain rfl := lpn_r hn2
        exact w_return k30 ⟨rfl, rfl⟩
      · replace h := if_f c h
        refine w_sg k30 2 (pc' := 21) (ls' := [(0, aR 39 0), (1, aI l1), (2, aR 46 0), (3, aI l3), (4, aI l3)]) (st' := []) (cs' := []) (fun _ => rfl) al0 ?_
        refine w_ls [(0, aR 39 0), (1, aI l1), (2, aR 46 0), (3, aI l3), (4, aI l3)] (lq_c rfl (lq_c rfl (lq_c rfl (lq_c rfl (lq_c rfl lq_n))))) ?_
        exact L21_0 _ _ _ _ h
  refine w_sg k30 2 (pc' := 4) (ls' := [(0, aR 39 0), (1, aI a1), (2, aR 46 0)]) (st' := [aI (gI Y.1 39 0 1)]) (cs' := []) (fun _ => rfl) al0 ?_
  refine w_if_ne k30 rfl (fun c => ?_) (fun c => ?_)
  · replace h := if_f c h
    refine w_sg k30 2 (pc' := 10) (ls' := [(0, aR 39 0), (1, aI a1), (2, aR 46 0), (3, aI (nI 0))]) (st' := []) (cs' := []) (fun _ => rfl) al0 ?_
    refine w_ls [(0, aR 39 0), (1, aI a1), (2, aR 46 0), (3, aI (nI 0))] (lq_c rfl (lq_c rfl (lq_c rfl (lq_c rfl lq_n)))) ?_
    exact L10_0 _ _ _ _ h
  · replace h := if_t c h
    obtain rfl := Option.some.inj h
    exact w_return k30 ⟨rfl, rfl⟩
set_option maxRecDepth 20000 in
set_option maxHeartbeats 4000000 in
/-- BallotBus.voteNow -/
theorem sn_159_0_46 (a1 : Int32) (a2 : Int32) {Y : Sm} (v : Unit) (Z : Sm) (h : fn_159_0_46 a1 a2 Y = some (v, Z)) : Mt 7 0 159 [aR 0 0, aI a1, aI a2, aR 46 0] Y (Rt none Z) nX := by
  refine Mt_of [(0, aR 0 0), (1, aI a1), (2, aI a2), (3, aR 46 0)] ?_
  generalize ho : (v, Z) = o at h
  have hv9 : v = o.1 := congrArg Prod.fst ho
  have hZ9 : Z = o.2 := congrArg Prod.snd ho
  clear ho
  subst hv9 hZ9
  unfold fn_159_0_46 at h
  refine w_sg k159 5 (pc' := 9) (ls' := [(0, aR 0 0), (1, aI a1), (2, aI a2), (3, aR 46 0)]) (st' := [aI a2, aR 21 0, aR 39 0]) (cs' := []) (fun _ => rfl) al0 ?_
  obtain ⟨_, Y1, hv2, h⟩ := bd_some h
  refine w_cV0 k159 (sn_25 _ _ _ _ hv2) rfl (st := []) rfl ?_ (fun _ _ q => q.elim)
  refine w_sg k159 4 (pc' := 20) (ls' := [(0, aR 0 0), (1, aI a1), (2, aI a2), (3, aR 46 0)]) (st' := [aR 46 0, aR 22 0]) (cs' := []) (fun _ => rfl) al0 ?_
  obtain ⟨_, Y3, hv4, h⟩ := bd_some h
  refine w_cS0 k159 (sn_44_22_46 _ _ _ hv4) rfl (st := []) rfl ?_ (fun _ _ q => q.elim)
  refine w_sg k159 4 (pc' := 29) (ls' := [(0, aR 0 0), (1, aI a1), (2, aI a2), (3, aR 46 0)]) (st' := [aR 46 0, aI a1, aR 39 0]) (cs' := []) (fun _ => rfl) al0 ?_
  obtain ⟨_, Y5, hv6, h⟩ := bd_some h
  refine w_cV0 k159 (sn_30_39_46 _ _ _ hv6) rfl (st := []) rfl ?_ (fun _ _ q => q.elim)
  obtain rfl := Option.some.inj h
  exact w_return k159 ⟨rfl, rfl⟩
set_option maxRecDepth 20000 in
set_option maxHeartbeats 4000000 in
/-- BallotBus.voted -/
theorem sn_124 (a1 : Int32) (a2 : Int32) {Y : Sm} (v : (Int32 ⊕ Nat)) (Z : Sm) (h : fn_124 a1 a2 Y = some (v, Z)) : Mt 8 2 124 [aR 0 0, aI a1, aI a2] Y (Pz (fun v => some (aI v)) v Z) (Ez v Z) := by
  refine Mt_of [(0, aR 0 0), (1, aI a1), (2, aI a2)] ?_
  generalize ho : (v, Z) = o at h
  have hv9 : v = o.1 := congrArg Prod.fst ho
  have hZ9 : Z = o.2 := congrArg Prod.snd ho
  clear ho
  subst hv9 hZ9
  unfold fn_124 at h
  refine w_sg k124 2 (pc' := 2) (ls' := [(0, aR 0 0), (1, aI a1), (2, aI a2)]) (st' := [aI a2, aR 0 0]) (cs' := []) (fun _ => rfl) al0 ?_
  obtain ⟨o12, Y1, hv2, ⟨_, ho13, h⟩ | ⟨x11, ho13, h⟩⟩ := bx_some h
  · subst ho13
    refine w_cV0 k124 (sn_155 _ _ _ hv2) rfl (st := []) rfl ?_ (fun _ _ q => q.elim)
    refine w_sg k124 2 (pc' := 7) (ls' := [(0, aR 0 0), (1, aI a1), (2, aI a2)]) (st' := [aI a1, aR 0 0]) (cs' := []) (fun _ => rfl) al0 ?_
    obtain ⟨o9, Y3, hv4, ⟨_, ho10, h⟩ | ⟨x8, ho10, h⟩⟩ := bx_some h
    · subst ho10
      refine w_cV0 k124 (sn_156 _ _ _ hv4) rfl (st := []) rfl ?_ (fun _ _ q => q.elim)
      refine w_sg k124 5 (pc' := 17) (ls' := [(0, aR 0 0), (1, aI a1), (2, aI a2)]) (st' := [aR 46 0, aI (-1 : Int32), aI a1, aR 0 0]) (cs' := []) (fun _ => rfl) al0 ?_
      obtain ⟨_, Y5, hv6, h⟩ := bd_some h
      refine w_cV0 k124 (sn_159_0_46 _ _ _ _ hv6) rfl (st := []) rfl ?_ (fun _ _ q => q.elim)
      obtain ⟨hc7, h⟩ := ck_some h
      refine w_sg k124 4 (pc' := 26) (ls' := [(0, aR 0 0), (1, aI a1), (2, aI a2)]) (st' := [aI (gI Y5.1 46 0 (ix a2))]) (cs' := [vp_in a2 5]) (fun _ => rfl) (al1 (vin hc7)) ?_
      obtain rfl := Option.some.inj h
      exact w_ireturn k124 Pz_l
    · subst ho10
      obtain rfl := Option.some.inj h
      exact w_xcallV k124 (sn_156 _ _ _ hv4) rfl (st := []) rfl Ez_r
  · subst ho13
    obtain rfl := Option.some.inj h
    exact w_xcallV k124 (sn_155 _ _ _ hv2) rfl (st := []) rfl Ez_r
set_option maxRecDepth 20000 in
set_option maxHeartbeats 4000000 in
/-- BallotBus$Rows.copy -/
theorem sn_44_22_47 (i0 : Nat) {Y : Sm} (v : Unit) (Z : Sm) (h : fn_44_22_47 i0 Y = some (v, Z)) : Mt 4 0 44 [aR 22 i0, aR 47 0] Y (Rt none Z) nX := by
  refine Mt_of [(0, aR 22 i0), (1, aR 47 0)] ?_
  generalize ho : (v, Z) = o at h
  have hv9 : v = o.1 := congrArg Prod.fst ho
  have hZ9 : Z = o.2 := congrArg Prod.snd ho
  clear ho
  subst hv9 hZ9
  unfold fn_44_22_47 at h
  refine w_sg k44 8 (pc' := 8) (ls' := [(0, aR 22 i0), (1, aR 47 0)]) (st' := [aI (nI 5), aI (nI 5), aI (nI 0), aR 47 0, aI (nI 0), aR 22 i0]) (cs' := []) (fun _ => rfl) al0 ?_
  refine w_sw k44 2 (Z := (sC Y 22 i0 0 47 0 0 5)) (pc' := 14) (ls' := [(0, aR 22 i0), (1, aR 47 0)]) (st' := []) (cs' := [¬ (nI 0) < 0, ¬ (nI 0) < 0, ¬ (nI 5) < 0, 0 + 5 ≤ 5, 0 + 5 ≤ 5, allw 47 0]) (fun _ => rfl) rfl (al2 (by decide) (al2 (by decide) (al2 (by decide) (al2 (by decide) (al2 (by decide) (al1 rfl)))))) ?_
  replace h := wr_some h
  generalize (sC Y 22 i0 0 47 0 0 5) = Y1 at h ⊢
  obtain rfl := Option.some.inj h
  exact w_return k44 ⟨rfl, rfl⟩
set_option maxRecDepth 20000 in
set_option maxHeartbeats 4000000 in
/-- BallotBus$Poll.rank -/
theorem sn_30_39_47 (a1 : Int32) {Y : Sm} (v : Unit) (Z : Sm) (h : fn_30_39_47 a1 Y = some (v, Z)) : Mt 6 0 30 [aR 39 0, aI a1, aR 47 0] Y (Rt none Z) nX := by
  refine Mt_of [(0, aR 39 0), (1, aI a1), (2, aR 47 0)] ?_
  generalize ho : (v, Z) = o at h
  have hv9 : v = o.1 := congrArg Prod.fst ho
  have hZ9 : Z = o.2 := congrArg Prod.snd ho
  clear ho
  subst hv9 hZ9
  unfold fn_30_39_47 at h
  have L10_0 : ∀ (l1 : Int32) (n : Nat) (l3 : Int32) (Y : Sm), lp (fun s => fn_30_39_47_L10 l1 s.1 s.2) n (l3, Y) = some o → Wm 6 0 30 0 10 [(0, aR 39 0), (1, aI l1), (2, aR 47 0), (3, aI l3)] [] Y (Rt none o.2) nX := by
    intro l1 n
    induction n with
    | zero => intro l3 Y h; cases h
    | succ n ih3 =>
      intro l3 Y h
      obtain ⟨q1, h, hn2⟩ := lp_succ h
      replace h : fn_30_39_47_L10 l1 l3 Y = some q1 := h
      unfold fn_30_39_47_L10 at h
      have L21_0 : ∀ (l3 : Int32) (n : Nat) (l4 : Int32) (Y : Sm), lp (fun s => fn_30_39_47_L21_d1 l1 l3 s.1 s.2) n (l4, Y) = some q1 → Wm 6 0 30 0 21 [(0, aR 39 0), (1, aI l1), (2, aR 47 0), (3, aI l3), (4, aI l4)] [] Y (Rt none o.2) nX := by
        intro l3 n
        induction n with
        | zero => intro l4 Y h; cases h
        | succ n ih6 =>
          intro l4 Y h
          obtain ⟨q4, h, hn5⟩ := lp_succ h
          replace h : fn_30_39_47_L21_d1 l1 l3 l4 Y = some q4 := h
          unfold fn_30_39_47_L21_d1 at h
          refine w_sg k30 1 (pc' := 23) (ls' := [(0, aR 39 0), (1, aI l1), (2, aR 47 0), (3, aI l3), (4, aI l4)]) (st' := [aI l4]) (cs' := []) (fun _ => rfl) al0 ?_
          refine w_if_le k30 rfl (fun c => ?_) (fun c => ?_)
          · replace h := if_t c h
            obtain ⟨hc7, h⟩ := ck_some h
            refine w_sw k30 4 (Z := (sI Y 47 0 (ix l4) l3)) (pc' := 62) (ls' := [(0, aR 39 0), (1, aI l1), (2, aR 47 0), (3, aI l3), (4, aI l4)]) (st' := []) (cs' := [vp_in l4 5, allw 47 0]) (fun _ => rfl) rfl (al2 (vin hc7) (al1 rfl)) ?_
            replace h := wr_some h
            generalize (sI Y 47 0 (ix l4) l3) = Y8 at h ⊢
            refine w_sg k30 1 (pc' := 65) (ls' := [(0, aR 39 0), (1, aI l1), (2, aR 47 0), (3, aI (l3 + (nI 1))), (4, aI l4)]) (st' := []) (cs' := []) (fun _ => rfl) al0 ?_
            refine w_sg k30 1 (pc' := 10) (ls' := [(0, aR 39 0), (1, aI l1), (2, aR 47 0), (3, aI (l3 + (nI 1))), (4, aI l4)]) (st' := []) (cs' := []) (fun _ => rfl) al0 ?_
            refine w_ls [(0, aR 39 0), (1, aI l1), (2, aR 47 0), (3, aI (l3 + (nI 1)))] (lq_c rfl (lq_c rfl (lq_c rfl (lq_c rfl lq_n)))) ?_
            obtain rfl := Option.some.inj h
            obtain rfl := lpn_r hn5
            exact ih3 _ _ (lpn_l hn2)
          · replace h := if_f c h
            obtain ⟨hc9, h⟩ := ck_some h
            refine w_sg k30 8 (pc' := 35) (ls' := [(0, aR 39 0), (1, aI l1), (2, aR 47 0), (3, aI l3), (4, aI l4)]) (st' := [aI l1, aI (gI Y.1 47 0 (ix (l4 - (nI 1)))), aI l3, aR 39 0]) (cs' := [vp_in (l4 - (nI 1)) 5]) (fun _ => rfl) (al1 (vin hc9)) ?_
            obtain ⟨v12, Y10, hv11, h⟩ := bd_some h
            refine w_cV1 k30 (sn_31 _ _ _ _ _ hv11) rfl (st := []) rfl ?_ (fun _ _ q => q.elim)
            refine w_if_eq k30 rfl (fun c => ?_) (fun c => ?_)
            · replace h := if_t c h
              obtain ⟨hc13, h⟩ := ck_some h
              refine w_sw k30 4 (Z := (sI Y10 47 0 (ix l4) l3)) (pc' := 62) (ls' := [(0, aR 39 0), (1, aI l1), (2, aR 47 0), (3, aI l3), (4, aI l4)]) (st' := []) (cs' := [vp_in l4 5, allw 47 0]) (fun _ => rfl) rfl (al2 (vin hc13) (al1 rfl)) ?_
              replace h := wr_some h
              generalize (sI Y10 47 0 (ix l4) l3) = Y14 at h ⊢
              refine w_sg k30 1 (pc' := 65) (ls' := [(0, aR 39 0), (1, aI l1), (2, aR 47 0), (3, aI (l3 + (nI 1))), (4, aI l4)]) (st' := []) (cs' := []) (fun _ => rfl) al0 ?_
              refine w_sg k30 1 (pc' := 10) (ls' := [(0, aR 39 0), (1, aI l1), (2, aR 47 0), (3, aI (l3 + (nI 1))), (4, aI l4)]) (st' := []) (cs' := []) (fun _ => rfl) al0 ?_
              refine w_ls [(0, aR 39 0), (1, aI l1), (2, aR 47 0), (3, aI (l3 + (nI 1)))] (lq_c rfl (lq_c rfl (lq_c rfl (lq_c rfl lq_n)))) ?_
              obtain rfl := Option.some.inj h
              obtain rfl := lpn_r hn5
              exact ih3 _ _ (lpn_l hn2)
            · replace h := if_f c h
              obtain ⟨hc15, h⟩ := ck_some h
              refine w_sw k30 8 (Z := (sI Y10 47 0 (ix l4) (gI Y10.1 47 0 (ix (l4 - (nI 1)))))) (pc' := 51) (ls' := [(0, aR 39 0), (1, aI l1), (2, aR 47 0), (3, aI l3), (4, aI l4)]) (st' := []) (cs' := [vp_in (l4 - (nI 1)) 5, vp_in l4 5, allw 47 0]) (fun _ => rfl) rfl (al2 (vin hc9) (al2 (vin hc15) (al1 rfl))) ?_
              replace h := wr_some h
              generalize (sI Y10 47 0 (ix l4) (gI Y10.1 47 0 (ix (l4 - (nI 1))))) = Y16 at h ⊢
              refine w_sg k30 1 (pc' := 54) (ls' := [(0, aR 39 0), (1, aI l1), (2, aR 47 0), (3, aI l3), (4, aI (l4 + (-1 : Int32)))]) (st' := []) (cs' := []) (fun _ => rfl) al0 ?_
              refine w_sg k30 1 (pc' := 21) (ls' := [(0, aR 39 0), (1, aI l1), (2, aR 47 0), (3, aI l3), (4, aI (l4 + (-1 : Int32)))]) (st' := []) (cs' := []) (fun _ => rfl) al0 ?_
              refine w_ls [(0, aR 39 0), (1, aI l1), (2, aR 47 0), (3, aI l3), (4, aI (l4 + (-1 : Int32)))] (lq_c rfl (lq_c rfl (lq_c rfl (lq_c rfl (lq_c rfl lq_n))))) ?_
              obtain rfl := Option.some.inj h
              exact ih6 _ _ (lpn_l hn5)
      refine w_sg k30 3 (pc' := 15) (ls' := [(0, aR 39 0), (1, aI l1), (2, aR 47 0), (3, aI l3)]) (st' := [aI (gI Y.1 39 0 0), aI l3]) (cs' := []) (fun _ => rfl) al0 ?_
      refine w_icmp_ge k30 rfl (fun c => ?_) (fun c => ?_)
      · replace h := if_t c h
        obtain rfl := Option.some.inj h
        obtain rfl := lpn_r hn2
        exact w_return k30 ⟨rfl, rfl⟩
      · replace h := if_f c h
        refine w_sg k30 2 (pc' := 21) (ls' := [(0, aR 39 0), (1, aI l1), (2, aR 47 0), (3, aI l3), (4, aI l3)]) (st' := []) (cs' := []) (fun _ => rfl) al0 ?_
        refine w_ls [(0, aR 39 0), (1, aI l1), (2, aR 47 0), (3, aI l3), (4, aI l3)] (lq_c rfl (lq_c rfl (lq_c rfl (lq_c rfl (lq_c rfl lq_n))))) ?_
        exact L21_0 _ _ _ _ h
  refine w_sg k30 2 (pc' := 4) (ls' := [(0, aR 39 0), (1, aI a1), (2, aR 47 0)]) (st' := [aI (gI Y.1 39 0 1)]) (cs' := []) (fun _ => rfl) al0 ?_
  refine w_if_ne k30 rfl (fun c => ?_) (fun c => ?_)
  · replace h := if_f c h
    refine w_sg k30 2 (pc' := 10) (ls' := [(0, aR 39 0), (1, aI a1), (2, aR 47 0), (3, aI (nI 0))]) (st' := []) (cs' := []) (fun _ => rfl) al0 ?_
    refine w_ls [(0, aR 39 0), (1, aI a1), (2, aR 47 0), (3, aI (nI 0))] (lq_c rfl (lq_c rfl (lq_c rfl (lq_c rfl lq_n)))) ?_
    exact L10_0 _ _ _ _ h
  · replace h := if_t c h
    obtain rfl := Option.some.inj h
    exact w_return k30 ⟨rfl, rfl⟩
set_option maxRecDepth 20000 in
set_option maxHeartbeats 4000000 in
/-- BallotBus.voteNow -/
theorem sn_159_0_47 (a1 : Int32) (a2 : Int32) {Y : Sm} (v : Unit) (Z : Sm) (h : fn_159_0_47 a1 a2 Y = some (v, Z)) : Mt 7 0 159 [aR 0 0, aI a1, aI a2, aR 47 0] Y (Rt none Z) nX := by
  refine Mt_of [(0, aR 0 0), (1, aI a1), (2, aI a2), (3, aR 47 0)] ?_
  generalize ho : (v, Z) = o at h
  have hv9 : v = o.1 := congrArg Prod.fst ho
  have hZ9 : Z = o.2 := congrArg Prod.snd ho
  clear ho
  subst hv9 hZ9
  unfold fn_159_0_47 at h
  refine w_sg k159 5 (pc' := 9) (ls' := [(0, aR 0 0), (1, aI a1), (2, aI a2), (3, aR 47 0)]) (st' := [aI a2, aR 21 0, aR 39 0]) (cs' := []) (fun _ => rfl) al0 ?_
  obtain ⟨_, Y1, hv2, h⟩ := bd_some h
  refine w_cV0 k159 (sn_25 _ _ _ _ hv2) rfl (st := []) rfl ?_ (fun _ _ q => q.elim)
  refine w_sg k159 4 (pc' := 20) (ls' := [(0, aR 0 0), (1, aI a1), (2, aI a2), (3, aR 47 0)]) (st' := [aR 47 0, aR 22 0]) (cs' := []) (fun _ => rfl) al0 ?_
  obtain ⟨_, Y3, hv4, h⟩ := bd_some h
  refine w_cS0 k159 (sn_44_22_47 _ _ _ hv4) rfl (st := []) rfl ?_ (fun _ _ q => q.elim)
  refine w_sg k159 4 (pc' := 29) (ls' := [(0, aR 0 0), (1, aI a1), (2, aI a2), (3, aR 47 0)]) (st' := [aR 47 0, aI a1, aR 39 0]) (cs' := []) (fun _ => rfl) al0 ?_
  obtain ⟨_, Y5, hv6, h⟩ := bd_some h
  refine w_cV0 k159 (sn_30_39_47 _ _ _ hv6) rfl (st := []) rfl ?_ (fun _ _ q => q.elim)
  obtain rfl := Option.some.inj h
  exact w_return k159 ⟨rfl, rfl⟩
set_option maxRecDepth 20000 in
set_option maxHeartbeats 4000000 in
/-- BallotBus$Rows.placeOf -/
theorem sn_45_47 (a1 : Int32) (a2 : Int32) {Y : Sm} (v : Int32) (Z : Sm) (h : fn_45_47 a1 a2 Y = some (v, Z)) : Mt 4 0 45 [aR 47 0, aI a1, aI a2] Y (Rt (some (aI v)) Z) nX := by
  refine Mt_of [(0, aR 47 0), (1, aI a1), (2, aI a2)] ?_
  generalize ho : (v, Z) = o at h
  have hv9 : v = o.1 := congrArg Prod.fst ho
  have hZ9 : Z = o.2 := congrArg Prod.snd ho
  clear ho
  subst hv9 hZ9
  unfold fn_45_47 at h
  have L2_0 : ∀ (l1 : Int32) (l2 : Int32) (n : Nat) (l3 : Int32) (Y : Sm), lp (fun s => fn_45_47_L2 l1 l2 s.1 s.2) n (l3, Y) = some o → Wm 4 0 45 0 2 [(0, aR 47 0), (1, aI l1), (2, aI l2), (3, aI l3)] [] Y (Rt (some (aI o.1)) o.2) nX := by
    intro l1 l2 n
    induction n with
    | zero => intro l3 Y h; cases h
    | succ n ih3 =>
      intro l3 Y h
      obtain ⟨q1, h, hn2⟩ := lp_succ h
      replace h : fn_45_47_L2 l1 l2 l3 Y = some q1 := h
      unfold fn_45_47_L2 at h
      refine w_sg k45 2 (pc' := 4) (ls' := [(0, aR 47 0), (1, aI l1), (2, aI l2), (3, aI l3)]) (st' := [aI l1, aI l3]) (cs' := []) (fun _ => rfl) al0 ?_
      refine w_icmp_ge k45 rfl (fun c => ?_) (fun c => ?_)
      · replace h := if_t c h
        refine w_sg k45 1 (pc' := 29) (ls' := [(0, aR 47 0), (1, aI l1), (2, aI l2), (3, aI l3)]) (st' := [aI (-1 : Int32)]) (cs' := []) (fun _ => rfl) al0 ?_
        obtain rfl := Option.some.inj h
        obtain rfl := lpn_r hn2
        exact w_ireturn k45 ⟨rfl, rfl⟩
      · replace h := if_f c h
        refine w_sg k45 3 (pc' := 10) (ls' := [(0, aR 47 0), (1, aI l1), (2, aI l2), (3, aI l3)]) (st' := [aI (nI 5), aI l3]) (cs' := []) (fun _ => rfl) al0 ?_
        refine w_icmp_ge k45 rfl (fun c => ?_) (fun c => ?_)
        · replace h := if_t c h
          refine w_sg k45 1 (pc' := 29) (ls' := [(0, aR 47 0), (1, aI l1), (2, aI l2), (3, aI l3)]) (st' := [aI (-1 : Int32)]) (cs' := []) (fun _ => rfl) al0 ?_
          obtain rfl := Option.some.inj h
          obtain rfl := lpn_r hn2
          exact w_ireturn k45 ⟨rfl, rfl⟩
        · replace h := if_f c h
          obtain ⟨hc4, h⟩ := ck_some h
          refine w_sg k45 4 (pc' := 17) (ls' := [(0, aR 47 0), (1, aI l1), (2, aI l2), (3, aI l3)]) (st' := [aI l2, aI (gI Y.1 47 0 (ix l3))]) (cs' := [vp_in l3 5]) (fun _ => rfl) (al1 (vin hc4)) ?_
          refine w_icmp_ne k45 rfl (fun c => ?_) (fun c => ?_)
          · replace h := if_f c h
            refine w_sg k45 1 (pc' := 25) (ls' := [(0, aR 47 0), (1, aI l1), (2, aI l2), (3, aI (l3 + (nI 1)))]) (st' := []) (cs' := []) (fun _ => rfl) al0 ?_
            refine w_sg k45 1 (pc' := 2) (ls' := [(0, aR 47 0), (1, aI l1), (2, aI l2), (3, aI (l3 + (nI 1)))]) (st' := []) (cs' := []) (fun _ => rfl) al0 ?_
            refine w_ls [(0, aR 47 0), (1, aI l1), (2, aI l2), (3, aI (l3 + (nI 1)))] (lq_c rfl (lq_c rfl (lq_c rfl (lq_c rfl lq_n)))) ?_
            obtain rfl := Option.some.inj h
            exact ih3 _ _ (lpn_l hn2)
          · replace h := if_t c h
            refine w_sg k45 1 (pc' := 21) (ls' := [(0, aR 47 0), (1, aI l1), (2, aI l2), (3, aI l3)]) (st' := [aI l3]) (cs' := []) (fun _ => rfl) al0 ?_
            obtain rfl := Option.some.inj h
            obtain rfl := lpn_r hn2
            exact w_ireturn k45 ⟨rfl, rfl⟩
  refine w_sg k45 2 (pc' := 2) (ls' := [(0, aR 47 0), (1, aI a1), (2, aI a2), (3, aI (nI 0))]) (st' := []) (cs' := []) (fun _ => rfl) al0 ?_
  refine w_ls [(0, aR 47 0), (1, aI a1), (2, aI a2), (3, aI (nI 0))] (lq_c rfl (lq_c rfl (lq_c rfl (lq_c rfl lq_n)))) ?_
  exact L2_0 _ _ _ _ _ h
set_option maxRecDepth 20000 in
set_option maxHeartbeats 4000000 in
/-- BallotBus$Rows.inversions -/
theorem sn_46_46_47 (a2 : Int32) {Y : Sm} (v : Int32) (Z : Sm) (h : fn_46_46_47 a2 Y = some (v, Z)) : Mt 5 0 46 [aR 46 0, aR 47 0, aI a2] Y (Rt (some (aI v)) Z) nX := by
  refine Mt_of [(0, aR 46 0), (1, aR 47 0), (2, aI a2)] ?_
  generalize ho : (v, Z) = o at h
  have hv9 : v = o.1 := congrArg Prod.fst ho
  have hZ9 : Z = o.2 := congrArg Prod.snd ho
  clear ho
  subst hv9 hZ9
  unfold fn_46_46_47 at h
  have L5_0 : ∀ (l2 : Int32) (n : Nat) (l3 : Int32) (l4 : Int32) (Y : Sm), lp (fun s => fn_46_46_47_L5 l2 s.1 s.2.1 s.2.2) n (l3, l4, Y) = some o → Wm 5 0 46 0 5 [(0, aR 46 0), (1, aR 47 0), (2, aI l2), (3, aI l3), (4, aI l4)] [] Y (Rt (some (aI o.1)) o.2) nX := by
    intro l2 n
    induction n with
    | zero => intro l3 l4 Y h; cases h
    | succ n ih3 =>
      intro l3 l4 Y h
      obtain ⟨q1, h, hn2⟩ := lp_succ h
      replace h : fn_46_46_47_L5 l2 l3 l4 Y = some q1 := h
      unfold fn_46_46_47_L5 at h
      have L21_0 : ∀ (l4 : Int32) (n : Nat) (l3 : Int32) (l5 : Int32) (Y : Sm), lp (fun s => fn_46_46_47_L21_d1 l2 l4 s.1 s.2.1 s.2.2) n (l3, l5, Y) = some q1 → Wm 5 0 46 0 21 [(0, aR 46 0), (1, aR 47 0), (2, aI l2), (3, aI l3), (4, aI l4), (5, aI l5)] [] Y (Rt (some (aI o.1)) o.2) nX := by
        intro l4 n
        induction n with
        | zero => intro l3 l5 Y h; cases h
        | succ n ih6 =>
          intro l3 l5 Y h
          obtain ⟨q4, h, hn5⟩ := lp_succ h
          replace h : fn_46_46_47_L21_d1 l2 l4 l3 l5 Y = some q4 := h
          unfold fn_46_46_47_L21_d1 at h
          refine w_sg k46 2 (pc' := 25) (ls' := [(0, aR 46 0), (1, aR 47 0), (2, aI l2), (3, aI l3), (4, aI l4), (5, aI l5)]) (st' := [aI l4, aI l5]) (cs' := []) (fun _ => rfl) al0 ?_
          refine w_icmp_ge k46 rfl (fun c => ?_) (fun c => ?_)
          · replace h := if_t c h
            refine w_sg k46 1 (pc' := 61) (ls' := [(0, aR 46 0), (1, aR 47 0), (2, aI l2), (3, aI l3), (4, aI (l4 + (nI 1))), (5, aI l5)]) (st' := []) (cs' := []) (fun _ => rfl) al0 ?_
            refine w_sg k46 1 (pc' := 5) (ls' := [(0, aR 46 0), (1, aR 47 0), (2, aI l2), (3, aI l3), (4, aI (l4 + (nI 1))), (5, aI l5)]) (st' := []) (cs' := []) (fun _ => rfl) al0 ?_
            refine w_ls [(0, aR 46 0), (1, aR 47 0), (2, aI l2), (3, aI l3), (4, aI (l4 + (nI 1)))] (lq_c rfl (lq_c rfl (lq_c rfl (lq_c rfl (lq_c rfl lq_n))))) ?_
            obtain rfl := Option.some.inj h
            obtain rfl := lpn_r hn5
            exact ih3 _ _ _ (lpn_l hn2)
          · replace h := if_f c h
            obtain ⟨hc7, h⟩ := ck_some h
            refine w_sg k46 5 (pc' := 34) (ls' := [(0, aR 46 0), (1, aR 47 0), (2, aI l2), (3, aI l3), (4, aI l4), (5, aI l5)]) (st' := [aI (gI Y.1 46 0 (ix l5)), aI l2, aR 47 0]) (cs' := [vp_in l5 5]) (fun _ => rfl) (al1 (vin hc7)) ?_
            obtain ⟨v10, Y8, hv9, h⟩ := bd_some h
            refine w_cS1 k46 (sn_45_47 _ _ _ _ hv9) rfl (st := []) rfl ?_ (fun _ _ q => q.elim)
            obtain ⟨hc11, h⟩ := ck_some h
            refine w_sg k46 5 (pc' := 43) (ls' := [(0, aR 46 0), (1, aR 47 0), (2, aI l2), (3, aI l3), (4, aI l4), (5, aI l5)]) (st' := [aI (gI Y8.1 46 0 (ix l4)), aI l2, aR 47 0, aI v10]) (cs' := [vp_in l4 5]) (fun _ => rfl) (al1 (vin hc11)) ?_
            obtain ⟨v14, Y12, hv13, h⟩ := bd_some h
            refine w_cS1 k46 (sn_45_47 _ _ _ _ hv13) rfl (st := [aI v10]) rfl ?_ (fun _ _ q => q.elim)
            refine w_icmp_le k46 rfl (fun c => ?_) (fun c => ?_)
            · replace h := if_t c h
              refine w_sg k46 1 (pc' := 55) (ls' := [(0, aR 46 0), (1, aR 47 0), (2, aI l2), (3, aI l3), (4, aI l4), (5, aI (l5 + (nI 1)))]) (st' := []) (cs' := []) (fun _ => rfl) al0 ?_
              refine w_sg k46 1 (pc' := 21) (ls' := [(0, aR 46 0), (1, aR 47 0), (2, aI l2), (3, aI l3), (4, aI l4), (5, aI (l5 + (nI 1)))]) (st' := []) (cs' := []) (fun _ => rfl) al0 ?_
              refine w_ls [(0, aR 46 0), (1, aR 47 0), (2, aI l2), (3, aI l3), (4, aI l4), (5, aI (l5 + (nI 1)))] (lq_c rfl (lq_c rfl (lq_c rfl (lq_c rfl (lq_c rfl (lq_c rfl lq_n)))))) ?_
              obtain rfl := Option.some.inj h
              exact ih6 _ _ _ (lpn_l hn5)
            · replace h := if_f c h
              refine w_sg k46 1 (pc' := 52) (ls' := [(0, aR 46 0), (1, aR 47 0), (2, aI l2), (3, aI (l3 + (nI 1))), (4, aI l4), (5, aI l5)]) (st' := []) (cs' := []) (fun _ => rfl) al0 ?_
              refine w_sg k46 1 (pc' := 55) (ls' := [(0, aR 46 0), (1, aR 47 0), (2, aI l2), (3, aI (l3 + (nI 1))), (4, aI l4), (5, aI (l5 + (nI 1)))]) (st' := []) (cs' := []) (fun _ => rfl) al0 ?_
              refine w_sg k46 1 (pc' := 21) (ls' := [(0, aR 46 0), (1, aR 47 0), (2, aI l2), (3, aI (l3 + (nI 1))), (4, aI l4), (5, aI (l5 + (nI 1)))]) (st' := []) (cs' := []) (fun _ => rfl) al0 ?_
              refine w_ls [(0, aR 46 0), (1, aR 47 0), (2, aI l2), (3, aI (l3 + (nI 1))), (4, aI l4), (5, aI (l5 + (nI 1)))] (lq_c rfl (lq_c rfl (lq_c rfl (lq_c rfl (lq_c rfl (lq_c rfl lq_n)))))) ?_
              obtain rfl := Option.some.inj h
              exact ih6 _ _ _ (lpn_l hn5)
      refine w_sg k46 2 (pc' := 8) (ls' := [(0, aR 46 0), (1, aR 47 0), (2, aI l2), (3, aI l3), (4, aI l4)]) (st' := [aI l2, aI l4]) (cs' := []) (fun _ => rfl) al0 ?_
      refine w_icmp_ge k46 rfl (fun c => ?_) (fun c => ?_)
      · replace h := if_t c h
        refine w_sg k46 1 (pc' := 65) (ls' := [(0, aR 46 0), (1, aR 47 0), (2, aI l2), (3, aI l3), (4, aI l4)]) (st' := [aI l3]) (cs' := []) (fun _ => rfl) al0 ?_
        obtain rfl := Option.some.inj h
        obtain rfl := lpn_r hn2
        exact w_ireturn k46 ⟨rfl, rfl⟩
      · replace h := if_f c h
        refine w_sg k46 3 (pc' := 15) (ls' := [(0, aR 46 0), (1, aR 47 0), (2, aI l2), (3, aI l3), (4, aI l4)]) (st' := [aI (nI 5), aI l4]) (cs' := []) (fun _ => rfl) al0 ?_
        refine w_icmp_ge k46 rfl (fun c => ?_) (fun c => ?_)
        · replace h := if_t c h
          refine w_sg k46 1 (pc' := 65) (ls' := [(0, aR 46 0), (1, aR 47 0), (2, aI l2), (3, aI l3), (4, aI l4)]) (st' := [aI l3]) (cs' := []) (fun _ => rfl) al0 ?_
          obtain rfl := Option.some.inj h
          obtain rfl := lpn_r hn2
          exact w_ireturn k46 ⟨rfl, rfl⟩
        · replace h := if_f c h
          refine w_sg k46 2 (pc' := 21) (ls' := [(0, aR 46 0), (1, aR 47 0), (2, aI l2), (3, aI l3), (4, aI l4), (5, aI (nI 0))]) (st' := []) (cs' := []) (fun _ => rfl) al0 ?_
          refine w_ls [(0, aR 46 0), (1, aR 47 0), (2, aI l2), (3, aI l3), (4, aI l4), (5, aI (nI 0))] (lq_c rfl (lq_c rfl (lq_c rfl (lq_c rfl (lq_c rfl (lq_c rfl lq_n)))))) ?_
          exact L21_0 _ _ _ _ _ h
  refine w_sg k46 2 (pc' := 2) (ls' := [(0, aR 46 0), (1, aR 47 0), (2, aI a2), (3, aI (nI 0))]) (st' := []) (cs' := []) (fun _ => rfl) al0 ?_
  refine w_sg k46 2 (pc' := 5) (ls' := [(0, aR 46 0), (1, aR 47 0), (2, aI a2), (3, aI (nI 0)), (4, aI (nI 0))]) (st' := []) (cs' := []) (fun _ => rfl) al0 ?_
  refine w_ls [(0, aR 46 0), (1, aR 47 0), (2, aI a2), (3, aI (nI 0)), (4, aI (nI 0))] (lq_c rfl (lq_c rfl (lq_c rfl (lq_c rfl (lq_c rfl lq_n))))) ?_
  exact L5_0 _ _ _ _ _ h
set_option maxRecDepth 20000 in
set_option maxHeartbeats 4000000 in
/-- BallotBus.isDecisive -/
theorem sn_125 (a1 : Int32) {Y : Sm} (v : (Int32 ⊕ Nat)) (Z : Sm) (h : fn_125 a1 Y = some (v, Z)) : Mt 8 1 125 [aR 0 0, aI a1] Y (Pz (fun v => some (aI v)) v Z) (Ez v Z) := by
  refine Mt_of [(0, aR 0 0), (1, aI a1)] ?_
  generalize ho : (v, Z) = o at h
  have hv9 : v = o.1 := congrArg Prod.fst ho
  have hZ9 : Z = o.2 := congrArg Prod.snd ho
  clear ho
  subst hv9 hZ9
  unfold fn_125 at h
  refine w_sg k125 2 (pc' := 2) (ls' := [(0, aR 0 0), (1, aI a1)]) (st' := [aI a1, aR 0 0]) (cs' := []) (fun _ => rfl) al0 ?_
  obtain ⟨o14, Y1, hv2, ⟨_, ho15, h⟩ | ⟨x13, ho15, h⟩⟩ := bx_some h
  · subst ho15
    refine w_cV0 k125 (sn_154 _ _ _ hv2) rfl (st := []) rfl ?_ (fun _ _ q => q.elim)
    refine w_sg k125 3 (pc' := 10) (ls' := [(0, aR 0 0), (1, aI a1)]) (st' := [aI a1, aR 21 0]) (cs' := []) (fun _ => rfl) al0 ?_
    obtain ⟨v5, Y3, hv4, h⟩ := bd_some h
    refine w_cV1 k125 (sn_73 _ _ _ _ hv4) rfl (st := []) rfl ?_ (fun _ _ q => q.elim)
    refine w_if_ne k125 rfl (fun c => ?_) (fun c => ?_)
    · replace h := if_f c h
      refine w_sg k125 7 (pc' := 31) (ls' := [(0, aR 0 0), (1, aI a1)]) (st' := [aR 46 0, aI (-1 : Int32), aI (gI Y3.1 21 0 2), aR 0 0]) (cs' := []) (fun _ => rfl) al0 ?_
      obtain ⟨_, Y6, hv7, h⟩ := bd_some h
      refine w_cV0 k125 (sn_159_0_46 _ _ _ _ hv7) rfl (st := []) rfl ?_ (fun _ _ q => q.elim)
      refine w_sg k125 7 (pc' := 47) (ls' := [(0, aR 0 0), (1, aI a1)]) (st' := [aR 47 0, aI a1, aI (gI Y6.1 21 0 2), aR 0 0]) (cs' := []) (fun _ => rfl) al0 ?_
      obtain ⟨_, Y8, hv9, h⟩ := bd_some h
      refine w_cV0 k125 (sn_159_0_47 _ _ _ _ hv9) rfl (st := []) rfl ?_ (fun _ _ q => q.elim)
      refine w_sg k125 7 (pc' := 65) (ls' := [(0, aR 0 0), (1, aI a1)]) (st' := [aI (gI Y8.1 5 (Y8.2 0) 0), aR 47 0, aR 46 0]) (cs' := []) (fun _ => rfl) al0 ?_
      obtain ⟨v12, Y10, hv11, h⟩ := bd_some h
      refine w_cS1 k125 (sn_46_46_47 _ _ _ hv11) rfl (st := []) rfl ?_ (fun _ _ q => q.elim)
      refine w_if_le k125 rfl (fun c => ?_) (fun c => ?_)
      · replace h := if_t c h
        refine w_sg k125 1 (pc' := 76) (ls' := [(0, aR 0 0), (1, aI a1)]) (st' := [aI (nI 0)]) (cs' := []) (fun _ => rfl) al0 ?_
        obtain rfl := Option.some.inj h
        exact w_zreturn k125 (Or.inl rfl) Pz_l
      · replace h := if_f c h
        refine w_sg k125 2 (pc' := 76) (ls' := [(0, aR 0 0), (1, aI a1)]) (st' := [aI (nI 1)]) (cs' := []) (fun _ => rfl) al0 ?_
        obtain rfl := Option.some.inj h
        exact w_zreturn k125 (Or.inr rfl) Pz_l
    · replace h := if_t c h
      refine w_sg k125 1 (pc' := 17) (ls' := [(0, aR 0 0), (1, aI a1)]) (st' := [aI (nI 0)]) (cs' := []) (fun _ => rfl) al0 ?_
      obtain rfl := Option.some.inj h
      exact w_zreturn k125 (Or.inl rfl) Pz_l
  · subst ho15
    obtain rfl := Option.some.inj h
    exact w_xcallV k125 (sn_154 _ _ _ hv2) rfl (st := []) rfl Ez_r
set_option maxRecDepth 20000 in
set_option maxHeartbeats 4000000 in
/-- BallotBus.votes -/
theorem sn_126 {Y : Sm} (v : Int32) (Z : Sm) (h : fn_126 Y = some (v, Z)) : Mt 6 0 126 [aR 0 0] Y (Rt (some (aI v)) Z) nX := by
  refine Mt_of [(0, aR 0 0)] ?_
  generalize ho : (v, Z) = o at h
  have hv9 : v = o.1 := congrArg Prod.fst ho
  have hZ9 : Z = o.2 := congrArg Prod.snd ho
  clear ho
  subst hv9 hZ9
  unfold fn_126 at h
  refine w_sg k126 5 (pc' := 9) (ls' := [(0, aR 0 0)]) (st' := [aI (-1 : Int32), aR 21 0, aR 39 0]) (cs' := []) (fun _ => rfl) al0 ?_
  obtain ⟨_, Y1, hv2, h⟩ := bd_some h
  refine w_cV0 k126 (sn_25 _ _ _ _ hv2) rfl (st := []) rfl ?_ (fun _ _ q => q.elim)
  refine w_sg k126 3 (pc' := 19) (ls' := [(0, aR 0 0)]) (st' := [aI (gI Y1.1 39 0 1)]) (cs' := []) (fun _ => rfl) al0 ?_
  obtain rfl := Option.some.inj h
  exact w_ireturn k126 ⟨rfl, rfl⟩
set_option maxRecDepth 20000 in
set_option maxHeartbeats 4000000 in
/-- BallotBus.differences -/
theorem sn_127 (a1 : Int32) (a2 : Int32) {Y : Sm} (v : (Int32 ⊕ Nat)) (Z : Sm) (h : fn_127 a1 a2 Y = some (v, Z)) : Mt 8 2 127 [aR 0 0, aI a1, aI a2] Y (Pz (fun v => some (aI v)) v Z) (Ez v Z) := by
  refine Mt_of [(0, aR 0 0), (1, aI a1), (2, aI a2)] ?_
  generalize ho : (v, Z) = o at h
  have hv9 : v = o.1 := congrArg Prod.fst ho
  have hZ9 : Z = o.2 := congrArg Prod.snd ho
  clear ho
  subst hv9 hZ9
  unfold fn_127 at h
  refine w_sg k127 2 (pc' := 2) (ls' := [(0, aR 0 0), (1, aI a1), (2, aI a2)]) (st' := [aI a1, aR 0 0]) (cs' := []) (fun _ => rfl) al0 ?_
  obtain ⟨o16, Y1, hv2, ⟨_, ho17, h⟩ | ⟨x15, ho17, h⟩⟩ := bx_some h
  · subst ho17
    refine w_cV0 k127 (sn_156 _ _ _ hv2) rfl (st := []) rfl ?_ (fun _ _ q => q.elim)
    refine w_sg k127 2 (pc' := 7) (ls' := [(0, aR 0 0), (1, aI a1), (2, aI a2)]) (st' := [aI a2, aR 0 0]) (cs' := []) (fun _ => rfl) al0 ?_
    obtain ⟨o13, Y3, hv4, ⟨_, ho14, h⟩ | ⟨x12, ho14, h⟩⟩ := bx_some h
    · subst ho14
      refine w_cV0 k127 (sn_156 _ _ _ hv4) rfl (st := []) rfl ?_ (fun _ _ q => q.elim)
      refine w_sg k127 5 (pc' := 17) (ls' := [(0, aR 0 0), (1, aI a1), (2, aI a2)]) (st' := [aR 46 0, aI (-1 : Int32), aI a1, aR 0 0]) (cs' := []) (fun _ => rfl) al0 ?_
      obtain ⟨_, Y5, hv6, h⟩ := bd_some h
      refine w_cV0 k127 (sn_159_0_46 _ _ _ _ hv6) rfl (st := []) rfl ?_ (fun _ _ q => q.elim)
      refine w_sg k127 5 (pc' := 27) (ls' := [(0, aR 0 0), (1, aI a1), (2, aI a2)]) (st' := [aR 47 0, aI (-1 : Int32), aI a2, aR 0 0]) (cs' := []) (fun _ => rfl) al0 ?_
      obtain ⟨_, Y7, hv8, h⟩ := bd_some h
      refine w_cV0 k127 (sn_159_0_47 _ _ _ _ hv8) rfl (st := []) rfl ?_ (fun _ _ q => q.elim)
      refine w_sg k127 7 (pc' := 45) (ls' := [(0, aR 0 0), (1, aI a1), (2, aI a2)]) (st' := [aI (gI Y7.1 5 (Y7.2 0) 0), aR 47 0, aR 46 0]) (cs' := []) (fun _ => rfl) al0 ?_
      obtain ⟨v11, Y9, hv10, h⟩ := bd_some h
      refine w_cS1 k127 (sn_46_46_47 _ _ _ hv10) rfl (st := []) rfl ?_ (fun _ _ q => q.elim)
      obtain rfl := Option.some.inj h
      exact w_ireturn k127 Pz_l
    · subst ho14
      obtain rfl := Option.some.inj h
      exact w_xcallV k127 (sn_156 _ _ _ hv4) rfl (st := []) rfl Ez_r
  · subst ho17
    obtain rfl := Option.some.inj h
    exact w_xcallV k127 (sn_156 _ _ _ hv2) rfl (st := []) rfl Ez_r
