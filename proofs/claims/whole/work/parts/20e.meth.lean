/-! the code of the methods does what their functions say (printed by wip/whole/gen20.py) -/
set_option maxRecDepth 20000 in
set_option maxHeartbeats 4000000 in
/-- BallotBus$Rows.inversions -/
theorem sn_46_27_22 (i0 : Nat) (i1 : Nat) (a2 : Int32) {Y : Sm} (v : Int32) (Z : Sm) (h : fn_46_27_22 i0 i1 a2 Y = some (v, Z)) : Mt 5 0 46 [aR 27 i0, aR 22 i1, aI a2] Y (Rt (some (aI v)) Z) nX := by
  refine Mt_of [(0, aR 27 i0), (1, aR 22 i1), (2, aI a2)] ?_
  generalize ho : (v, Z) = o at h
  have hv9 : v = o.1 := congrArg Prod.fst ho
  have hZ9 : Z = o.2 := congrArg Prod.snd ho
  clear ho
  subst hv9 hZ9
  unfold fn_46_27_22 at h
  have L5_0 : ∀ (l0 : Nat) (l1 : Nat) (l2 : Int32) (n : Nat) (l3 : Int32) (l4 : Int32) (Y : Sm), lp (fun s => fn_46_27_22_L5 l0 l1 l2 s.1 s.2.1 s.2.2) n (l3, l4, Y) = some o → Wm 5 0 46 0 5 [(0, aR 27 l0), (1, aR 22 l1), (2, aI l2), (3, aI l3), (4, aI l4)] [] Y (Rt (some (aI o.1)) o.2) nX := by
    intro l0 l1 l2 n
    induction n with
    | zero => intro l3 l4 Y h; cases h
    | succ n ih3 =>
      intro l3 l4 Y h
      obtain ⟨q1, h, hn2⟩ := lp_succ h
      replace h : fn_46_27_22_L5 l0 l1 l2 l3 l4 Y = some q1 := h
      unfold fn_46_27_22_L5 at h
      have L21_0 : ∀ (l4 : Int32) (n : Nat) (l3 : Int32) (l5 : Int32) (Y : Sm), lp (fun s => fn_46_27_22_L21_d1 l0 l1 l2 l4 s.1 s.2.1 s.2.2) n (l3, l5, Y) = some q1 → Wm 5 0 46 0 21 [(0, aR 27 l0), (1, aR 22 l1), (2, aI l2), (3, aI l3), (4, aI l4), (5, aI l5)] [] Y (Rt (some (aI o.1)) o.2) nX := by
        intro l4 n
        induction n with
        | zero => intro l3 l5 Y h; cases h
        | succ n ih6 =>
          intro l3 l5 Y h
          obtain ⟨q4, h, hn5⟩ := lp_succ h
          replace h : fn_46_27_22_L21_d1 l0 l1 l2 l4 l3 l5 Y = some q4 := h
          unfold fn_46_27_22_L21_d1 at h
          refine w_sg k46 2 (pc' := 25) (ls' := [(0, aR 27 l0), (1, aR 22 l1), (2, aI l2), (3, aI l3), (4, aI l4), (5, aI l5)]) (st' := [aI l4, aI l5]) (cs' := []) (fun _ => rfl) al0 ?_
          refine w_icmp_ge k46 rfl (fun c => ?_) (fun c => ?_)
          · replace h := if_t c h
            refine w_sg k46 1 (pc' := 61) (ls' := [(0, aR 27 l0), (1, aR 22 l1), (2, aI l2), (3, aI l3), (4, aI (l4 + (nI 1))), (5, aI l5)]) (st' := []) (cs' := []) (fun _ => rfl) al0 ?_
            refine w_sg k46 1 (pc' := 5) (ls' := [(0, aR 27 l0), (1, aR 22 l1), (2, aI l2), (3, aI l3), (4, aI (l4 + (nI 1))), (5, aI l5)]) (st' := []) (cs' := []) (fun _ => rfl) al0 ?_
            refine w_ls [(0, aR 27 l0), (1, aR 22 l1), (2, aI l2), (3, aI l3), (4, aI (l4 + (nI 1)))] (lq_c rfl (lq_c rfl (lq_c rfl (lq_c rfl (lq_c rfl lq_n))))) ?_
            obtain rfl := Option.some.inj h
            obtain rfl := lpn_r hn5
            exact ih3 _ _ _ (lpn_l hn2)
          · replace h := if_f c h
            obtain ⟨hc7, h⟩ := ck_some h
            refine w_sg k46 5 (pc' := 34) (ls' := [(0, aR 27 l0), (1, aR 22 l1), (2, aI l2), (3, aI l3), (4, aI l4), (5, aI l5)]) (st' := [aI (gI Y.1 27 l0 (ix l5)), aI l2, aR 22 l1]) (cs' := [vp_in l5 5]) (fun _ => rfl) (al1 (vin hc7)) ?_
            obtain ⟨v10, Y8, hv9, h⟩ := bd_some h
            refine w_cS1 k46 (sn_45_22 _ _ _ _ _ hv9) rfl (st := []) rfl ?_ (fun _ _ q => q.elim)
            obtain ⟨hc11, h⟩ := ck_some h
            refine w_sg k46 5 (pc' := 43) (ls' := [(0, aR 27 l0), (1, aR 22 l1), (2, aI l2), (3, aI l3), (4, aI l4), (5, aI l5)]) (st' := [aI (gI Y8.1 27 l0 (ix l4)), aI l2, aR 22 l1, aI v10]) (cs' := [vp_in l4 5]) (fun _ => rfl) (al1 (vin hc11)) ?_
            obtain ⟨v14, Y12, hv13, h⟩ := bd_some h
            refine w_cS1 k46 (sn_45_22 _ _ _ _ _ hv13) rfl (st := [aI v10]) rfl ?_ (fun _ _ q => q.elim)
            refine w_icmp_le k46 rfl (fun c => ?_) (fun c => ?_)
            · replace h := if_t c h
              refine w_sg k46 1 (pc' := 55) (ls' := [(0, aR 27 l0), (1, aR 22 l1), (2, aI l2), (3, aI l3), (4, aI l4), (5, aI (l5 + (nI 1)))]) (st' := []) (cs' := []) (fun _ => rfl) al0 ?_
              refine w_sg k46 1 (pc' := 21) (ls' := [(0, aR 27 l0), (1, aR 22 l1), (2, aI l2), (3, aI l3), (4, aI l4), (5, aI (l5 + (nI 1)))]) (st' := []) (cs' := []) (fun _ => rfl) al0 ?_
              refine w_ls [(0, aR 27 l0), (1, aR 22 l1), (2, aI l2), (3, aI l3), (4, aI l4), (5, aI (l5 + (nI 1)))] (lq_c rfl (lq_c rfl (lq_c rfl (lq_c rfl (lq_c rfl (lq_c rfl lq_n)))))) ?_
              obtain rfl := Option.some.inj h
              exact ih6 _ _ _ (lpn_l hn5)
            · replace h := if_f c h
              refine w_sg k46 1 (pc' := 52) (ls' := [(0, aR 27 l0), (1, aR 22 l1), (2, aI l2), (3, aI (l3 + (nI 1))), (4, aI l4), (5, aI l5)]) (st' := []) (cs' := []) (fun _ => rfl) al0 ?_
              refine w_sg k46 1 (pc' := 55) (ls' := [(0, aR 27 l0), (1, aR 22 l1), (2, aI l2), (3, aI (l3 + (nI 1))), (4, aI l4), (5, aI (l5 + (nI 1)))]) (st' := []) (cs' := []) (fun _ => rfl) al0 ?_
              refine w_sg k46 1 (pc' := 21) (ls' := [(0, aR 27 l0), (1, aR 22 l1), (2, aI l2), (3, aI (l3 + (nI 1))), (4, aI l4), (5, aI (l5 + (nI 1)))]) (st' := []) (cs' := []) (fun _ => rfl) al0 ?_
              refine w_ls [(0, aR 27 l0), (1, aR 22 l1), (2, aI l2), (3, aI (l3 + (nI 1))), (4, aI l4), (5, aI (l5 + (nI 1)))] (lq_c rfl (lq_c rfl (lq_c rfl (lq_c rfl (lq_c rfl (lq_c rfl lq_n)))))) ?_
              obtain rfl := Option.some.inj h
              exact ih6 _ _ _ (lpn_l hn5)
      refine w_sg k46 2 (pc' := 8) (ls' := [(0, aR 27 l0), (1, aR 22 l1), (2, aI l2), (3, aI l3), (4, aI l4)]) (st' := [aI l2, aI l4]) (cs' := []) (fun _ => rfl) al0 ?_
      refine w_icmp_ge k46 rfl (fun c => ?_) (fun c => ?_)
      · replace h := if_t c h
        refine w_sg k46 1 (pc' := 65) (ls' := [(0, aR 27 l0), (1, aR 22 l1), (2, aI l2), (3, aI l3), (4, aI l4)]) (st' := [aI l3]) (cs' := []) (fun _ => rfl) al0 ?_
        obtain rfl := Option.some.inj h
        obtain rfl := lpn_r hn2
        exact w_ireturn k46 ⟨rfl, rfl⟩
      · replace h := if_f c h
        refine w_sg k46 3 (pc' := 15) (ls' := [(0, aR 27 l0), (1, aR 22 l1), (2, aI l2), (3, aI l3), (4, aI l4)]) (st' := [aI (nI 5), aI l4]) (cs' := []) (fun _ => rfl) al0 ?_
        refine w_icmp_ge k46 rfl (fun c => ?_) (fun c => ?_)
        · replace h := if_t c h
          refine w_sg k46 1 (pc' := 65) (ls' := [(0, aR 27 l0), (1, aR 22 l1), (2, aI l2), (3, aI l3), (4, aI l4)]) (st' := [aI l3]) (cs' := []) (fun _ => rfl) al0 ?_
          obtain rfl := Option.some.inj h
          obtain rfl := lpn_r hn2
          exact w_ireturn k46 ⟨rfl, rfl⟩
        · replace h := if_f c h
          refine w_sg k46 2 (pc' := 21) (ls' := [(0, aR 27 l0), (1, aR 22 l1), (2, aI l2), (3, aI l3), (4, aI l4), (5, aI (nI 0))]) (st' := []) (cs' := []) (fun _ => rfl) al0 ?_
          refine w_ls [(0, aR 27 l0), (1, aR 22 l1), (2, aI l2), (3, aI l3), (4, aI l4), (5, aI (nI 0))] (lq_c rfl (lq_c rfl (lq_c rfl (lq_c rfl (lq_c rfl (lq_c rfl lq_n)))))) ?_
          exact L21_0 _ _ _ _ _ h
  refine w_sg k46 2 (pc' := 2) (ls' := [(0, aR 27 i0), (1, aR 22 i1), (2, aI a2), (3, aI (nI 0))]) (st' := []) (cs' := []) (fun _ => rfl) al0 ?_
  refine w_sg k46 2 (pc' := 5) (ls' := [(0, aR 27 i0), (1, aR 22 i1), (2, aI a2), (3, aI (nI 0)), (4, aI (nI 0))]) (st' := []) (cs' := []) (fun _ => rfl) al0 ?_
  refine w_ls [(0, aR 27 i0), (1, aR 22 i1), (2, aI a2), (3, aI (nI 0)), (4, aI (nI 0))] (lq_c rfl (lq_c rfl (lq_c rfl (lq_c rfl (lq_c rfl lq_n))))) ?_
  exact L5_0 _ _ _ _ _ _ _ h
set_option maxRecDepth 20000 in
set_option maxHeartbeats 4000000 in
/-- BallotBus.distance -/
theorem sn_128 (a1 : Int32) {Y : Sm} (v : (Int32 ⊕ Nat)) (Z : Sm) (h : fn_128 a1 Y = some (v, Z)) : Mt 7 1 128 [aR 0 0, aI a1] Y (Pz (fun v => some (aI v)) v Z) (Ez v Z) := by
  refine Mt_of [(0, aR 0 0), (1, aI a1)] ?_
  generalize ho : (v, Z) = o at h
  have hv9 : v = o.1 := congrArg Prod.fst ho
  have hZ9 : Z = o.2 := congrArg Prod.snd ho
  clear ho
  subst hv9 hZ9
  unfold fn_128 at h
  refine w_sg k128 2 (pc' := 2) (ls' := [(0, aR 0 0), (1, aI a1)]) (st' := [aI a1, aR 0 0]) (cs' := []) (fun _ => rfl) al0 ?_
  obtain ⟨o8, Y1, hv2, ⟨_, ho9, h⟩ | ⟨x7, ho9, h⟩⟩ := bx_some h
  · subst ho9
    refine w_cV0 k128 (sn_154 _ _ _ hv2) rfl (st := []) rfl ?_ (fun _ _ q => q.elim)
    obtain ⟨hc3, h⟩ := ck_some h
    refine w_sg k128 5 (pc' := 14) (ls' := [(0, aR 0 0), (1, aI a1)]) (st' := [aR 27 (8 * 0 + ix a1)]) (cs' := [vp_in a1 8]) (fun _ => rfl) (al1 (vin hc3)) ?_
    refine w_sg k128 6 (pc' := 28) (ls' := [(0, aR 0 0), (1, aI a1)]) (st' := [aI (gI Y1.1 5 (Y1.2 0) 0), aR 22 0, aR 27 (8 * 0 + ix a1)]) (cs' := []) (fun _ => rfl) al0 ?_
    obtain ⟨v6, Y4, hv5, h⟩ := bd_some h
    refine w_cS1 k128 (sn_46_27_22 _ _ _ _ _ hv5) rfl (st := []) rfl ?_ (fun _ _ q => q.elim)
    obtain rfl := Option.some.inj h
    exact w_ireturn k128 Pz_l
  · subst ho9
    obtain rfl := Option.some.inj h
    exact w_xcallV k128 (sn_154 _ _ _ hv2) rfl (st := []) rfl Ez_r
set_option maxRecDepth 20000 in
set_option maxHeartbeats 4000000 in
/-- BallotBus$Rows.number -/
theorem sn_43_46 {Y : Sm} (v : Unit) (Z : Sm) (h : fn_43_46 Y = some (v, Z)) : Mt 4 0 43 [aR 46 0] Y (Rt none Z) nX := by
  refine Mt_of [(0, aR 46 0)] ?_
  generalize ho : (v, Z) = o at h
  have hv9 : v = o.1 := congrArg Prod.fst ho
  have hZ9 : Z = o.2 := congrArg Prod.snd ho
  clear ho
  subst hv9 hZ9
  unfold fn_43_46 at h
  have L2_0 : ∀ (n : Nat) (l1 : Int32) (Y : Sm), lp (fun s => fn_43_46_L2 s.1 s.2) n (l1, Y) = some o → Wm 4 0 43 0 2 [(0, aR 46 0), (1, aI l1)] [] Y (Rt none o.2) nX := by
    intro n
    induction n with
    | zero => intro l1 Y h; cases h
    | succ n ih3 =>
      intro l1 Y h
      obtain ⟨q1, h, hn2⟩ := lp_succ h
      replace h : fn_43_46_L2 l1 Y = some q1 := h
      unfold fn_43_46_L2 at h
      refine w_sg k43 3 (pc' := 5) (ls' := [(0, aR 46 0), (1, aI l1)]) (st' := [aI (nI 5), aI l1]) (cs' := []) (fun _ => rfl) al0 ?_
      refine w_icmp_ge k43 rfl (fun c => ?_) (fun c => ?_)
      · replace h := if_t c h
        obtain rfl := Option.some.inj h
        obtain rfl := lpn_r hn2
        exact w_return k43 ⟨rfl, rfl⟩
      · replace h := if_f c h
        obtain ⟨hc4, h⟩ := ck_some h
        refine w_sw k43 4 (Z := (sI Y 46 0 (ix l1) l1)) (pc' := 12) (ls' := [(0, aR 46 0), (1, aI l1)]) (st' := []) (cs' := [vp_in l1 5, allw 46 0]) (fun _ => rfl) rfl (al2 (vin hc4) (al1 rfl)) ?_
        replace h := wr_some h
        generalize (sI Y 46 0 (ix l1) l1) = Y5 at h ⊢
        refine w_sg k43 1 (pc' := 15) (ls' := [(0, aR 46 0), (1, aI (l1 + (nI 1)))]) (st' := []) (cs' := []) (fun _ => rfl) al0 ?_
        refine w_sg k43 1 (pc' := 2) (ls' := [(0, aR 46 0), (1, aI (l1 + (nI 1)))]) (st' := []) (cs' := []) (fun _ => rfl) al0 ?_
        refine w_ls [(0, aR 46 0), (1, aI (l1 + (nI 1)))] (lq_c rfl (lq_c rfl lq_n)) ?_
        obtain rfl := Option.some.inj h
        exact ih3 _ _ (lpn_l hn2)
  refine w_sg k43 2 (pc' := 2) (ls' := [(0, aR 46 0), (1, aI (nI 0))]) (st' := []) (cs' := []) (fun _ => rfl) al0 ?_
  refine w_ls [(0, aR 46 0), (1, aI (nI 0))] (lq_c rfl (lq_c rfl lq_n)) ?_
  exact L2_0 _ _ _ h
set_option maxRecDepth 20000 in
set_option maxHeartbeats 4000000 in
/-- BallotBus$Poll.disagreement -/
theorem sn_29 {Y : Sm} (v : Int32) (Z : Sm) (h : fn_29 Y = some (v, Z)) : Mt 4 0 29 [aR 39 0, aR 46 0] Y (Rt (some (aI v)) Z) nX := by
  refine Mt_of [(0, aR 39 0), (1, aR 46 0)] ?_
  generalize ho : (v, Z) = o at h
  have hv9 : v = o.1 := congrArg Prod.fst ho
  have hZ9 : Z = o.2 := congrArg Prod.snd ho
  clear ho
  subst hv9 hZ9
  unfold fn_29 at h
  have L4_0 : ∀ (n : Nat) (l2 : Int32) (l3 : Int32) (Y : Sm), lp (fun s => fn_29_L4 s.1 s.2.1 s.2.2) n (l2, l3, Y) = some o → Wm 4 0 29 0 4 [(0, aR 39 0), (1, aR 46 0), (2, aI l2), (3, aI l3)] [] Y (Rt (some (aI o.1)) o.2) nX := by
    intro n
    induction n with
    | zero => intro l2 l3 Y h; cases h
    | succ n ih3 =>
      intro l2 l3 Y h
      obtain ⟨q1, h, hn2⟩ := lp_succ h
      replace h : fn_29_L4 l2 l3 Y = some q1 := h
      unfold fn_29_L4 at h
      have L17_0 : ∀ (l3 : Int32) (n : Nat) (l2 : Int32) (l4 : Int32) (Y : Sm), lp (fun s => fn_29_L17_d1 l3 s.1 s.2.1 s.2.2) n (l2, l4, Y) = some q1 → Wm 4 0 29 0 17 [(0, aR 39 0), (1, aR 46 0), (2, aI l2), (3, aI l3), (4, aI l4)] [] Y (Rt (some (aI o.1)) o.2) nX := by
        intro l3 n
        induction n with
        | zero => intro l2 l4 Y h; cases h
        | succ n ih6 =>
          intro l2 l4 Y h
          obtain ⟨q4, h, hn5⟩ := lp_succ h
          replace h : fn_29_L17_d1 l3 l2 l4 Y = some q4 := h
          unfold fn_29_L17_d1 at h
          refine w_sg k29 3 (pc' := 23) (ls' := [(0, aR 39 0), (1, aR 46 0), (2, aI l2), (3, aI l3), (4, aI l4)]) (st' := [aI (gI Y.1 39 0 0), aI l4]) (cs' := []) (fun _ => rfl) al0 ?_
          refine w_icmp_ge k29 rfl (fun c => ?_) (fun c => ?_)
          · replace h := if_t c h
            refine w_sg k29 1 (pc' := 51) (ls' := [(0, aR 39 0), (1, aR 46 0), (2, aI l2), (3, aI (l3 + (nI 1))), (4, aI l4)]) (st' := []) (cs' := []) (fun _ => rfl) al0 ?_
            refine w_sg k29 1 (pc' := 4) (ls' := [(0, aR 39 0), (1, aR 46 0), (2, aI l2), (3, aI (l3 + (nI 1))), (4, aI l4)]) (st' := []) (cs' := []) (fun _ => rfl) al0 ?_
            refine w_ls [(0, aR 39 0), (1, aR 46 0), (2, aI l2), (3, aI (l3 + (nI 1)))] (lq_c rfl (lq_c rfl (lq_c rfl (lq_c rfl lq_n)))) ?_
            obtain rfl := Option.some.inj h
            obtain rfl := lpn_r hn5
            exact ih3 _ _ _ (lpn_l hn2)
          · replace h := if_f c h
            obtain ⟨hc7, h⟩ := ck_some h
            obtain ⟨hc8, h⟩ := ck_some h
            refine w_sg k29 7 (pc' := 36) (ls' := [(0, aR 39 0), (1, aR 46 0), (2, aI l2), (3, aI l3), (4, aI l4)]) (st' := [aR 45 (ix (gI Y.1 46 0 (ix l4))), aI l2]) (cs' := [vp_in l4 5, vp_in (gI Y.1 46 0 (ix l4)) 5]) (fun _ => rfl) (al2 (vin hc7) (al1 (vin hc8))) ?_
            obtain ⟨hc9, h⟩ := ck_some h
            obtain ⟨hc10, h⟩ := ck_some h
            refine w_sg k29 6 (pc' := 42) (ls' := [(0, aR 39 0), (1, aR 46 0), (2, aI (l2 + (gI Y.1 45 (ix (gI Y.1 46 0 (ix l4))) (ix (gI Y.1 46 0 (ix l3)))))), (3, aI l3), (4, aI l4)]) (st' := []) (cs' := [vp_in l3 5, vp_in (gI Y.1 46 0 (ix l3)) 5]) (fun _ => rfl) (al2 (vin hc9) (al1 (vin hc10))) ?_
            refine w_sg k29 1 (pc' := 45) (ls' := [(0, aR 39 0), (1, aR 46 0), (2, aI (l2 + (gI Y.1 45 (ix (gI Y.1 46 0 (ix l4))) (ix (gI Y.1 46 0 (ix l3)))))), (3, aI l3), (4, aI (l4 + (nI 1)))]) (st' := []) (cs' := []) (fun _ => rfl) al0 ?_
            refine w_sg k29 1 (pc' := 17) (ls' := [(0, aR 39 0), (1, aR 46 0), (2, aI (l2 + (gI Y.1 45 (ix (gI Y.1 46 0 (ix l4))) (ix (gI Y.1 46 0 (ix l3)))))), (3, aI l3), (4, aI (l4 + (nI 1)))]) (st' := []) (cs' := []) (fun _ => rfl) al0 ?_
            refine w_ls [(0, aR 39 0), (1, aR 46 0), (2, aI (l2 + (gI Y.1 45 (ix (gI Y.1 46 0 (ix l4))) (ix (gI Y.1 46 0 (ix l3)))))), (3, aI l3), (4, aI (l4 + (nI 1)))] (lq_c rfl (lq_c rfl (lq_c rfl (lq_c rfl (lq_c rfl lq_n))))) ?_
            obtain rfl := Option.some.inj h
            exact ih6 _ _ _ (lpn_l hn5)
      refine w_sg k29 3 (pc' := 9) (ls' := [(0, aR 39 0), (1, aR 46 0), (2, aI l2), (3, aI l3)]) (st' := [aI (gI Y.1 39 0 0), aI l3]) (cs' := []) (fun _ => rfl) al0 ?_
      refine w_icmp_ge k29 rfl (fun c => ?_) (fun c => ?_)
      · replace h := if_t c h
        refine w_sg k29 1 (pc' := 55) (ls' := [(0, aR 39 0), (1, aR 46 0), (2, aI l2), (3, aI l3)]) (st' := [aI l2]) (cs' := []) (fun _ => rfl) al0 ?_
        obtain rfl := Option.some.inj h
        obtain rfl := lpn_r hn2
        exact w_ireturn k29 ⟨rfl, rfl⟩
      · replace h := if_f c h
        refine w_sg k29 4 (pc' := 17) (ls' := [(0, aR 39 0), (1, aR 46 0), (2, aI l2), (3, aI l3), (4, aI (l3 + (nI 1)))]) (st' := []) (cs' := []) (fun _ => rfl) al0 ?_
        refine w_ls [(0, aR 39 0), (1, aR 46 0), (2, aI l2), (3, aI l3), (4, aI (l3 + (nI 1)))] (lq_c rfl (lq_c rfl (lq_c rfl (lq_c rfl (lq_c rfl lq_n))))) ?_
        exact L17_0 _ _ _ _ _ h
  refine w_sg k29 2 (pc' := 2) (ls' := [(0, aR 39 0), (1, aR 46 0), (2, aI (nI 0))]) (st' := []) (cs' := []) (fun _ => rfl) al0 ?_
  refine w_sg k29 2 (pc' := 4) (ls' := [(0, aR 39 0), (1, aR 46 0), (2, aI (nI 0)), (3, aI (nI 0))]) (st' := []) (cs' := []) (fun _ => rfl) al0 ?_
  refine w_ls [(0, aR 39 0), (1, aR 46 0), (2, aI (nI 0)), (3, aI (nI 0))] (lq_c rfl (lq_c rfl (lq_c rfl (lq_c rfl lq_n)))) ?_
  exact L4_0 _ _ _ _ h
set_option maxRecDepth 20000 in
set_option maxHeartbeats 4000000 in
/-- BallotBus$Rows.copy -/
theorem sn_44_46_47 {Y : Sm} (v : Unit) (Z : Sm) (h : fn_44_46_47 Y = some (v, Z)) : Mt 4 0 44 [aR 46 0, aR 47 0] Y (Rt none Z) nX := by
  refine Mt_of [(0, aR 46 0), (1, aR 47 0)] ?_
  generalize ho : (v, Z) = o at h
  have hv9 : v = o.1 := congrArg Prod.fst ho
  have hZ9 : Z = o.2 := congrArg Prod.snd ho
  clear ho
  subst hv9 hZ9
  unfold fn_44_46_47 at h
  refine w_sg k44 8 (pc' := 8) (ls' := [(0, aR 46 0), (1, aR 47 0)]) (st' := [aI (nI 5), aI (nI 5), aI (nI 0), aR 47 0, aI (nI 0), aR 46 0]) (cs' := []) (fun _ => rfl) al0 ?_
  refine w_sw k44 2 (Z := (sC Y 46 0 0 47 0 0 5)) (pc' := 14) (ls' := [(0, aR 46 0), (1, aR 47 0)]) (st' := []) (cs' := [¬ (nI 0) < 0, ¬ (nI 0) < 0, ¬ (nI 5) < 0, 0 + 5 ≤ 5, 0 + 5 ≤ 5, allw 47 0]) (fun _ => rfl) rfl (al2 (by decide) (al2 (by decide) (al2 (by decide) (al2 (by decide) (al2 (by decide) (al1 rfl)))))) ?_
  replace h := wr_some h
  generalize (sC Y 46 0 0 47 0 0 5) = Y1 at h ⊢
  obtain rfl := Option.some.inj h
  exact w_return k44 ⟨rfl, rfl⟩
set_option maxRecDepth 20000 in
set_option maxHeartbeats 4000000 in
/-- BallotBus$Rows.swap -/
theorem sn_48 (a1 : Int32) (a2 : Int32) {Y : Sm} (v : Unit) (Z : Sm) (h : fn_48 a1 a2 Y = some (v, Z)) : Mt 4 0 48 [aR 46 0, aI a1, aI a2] Y (Rt none Z) nX := by
  refine Mt_of [(0, aR 46 0), (1, aI a1), (2, aI a2)] ?_
  generalize ho : (v, Z) = o at h
  have hv9 : v = o.1 := congrArg Prod.fst ho
  have hZ9 : Z = o.2 := congrArg Prod.snd ho
  clear ho
  subst hv9 hZ9
  unfold fn_48 at h
  obtain ⟨hc1, h⟩ := ck_some h
  refine w_sg k48 4 (pc' := 4) (ls' := [(0, aR 46 0), (1, aI a1), (2, aI a2), (3, aI (gI Y.1 46 0 (ix a1)))]) (st' := []) (cs' := [vp_in a1 5]) (fun _ => rfl) (al1 (vin hc1)) ?_
  obtain ⟨hc2, h⟩ := ck_some h
  refine w_sw k48 6 (Z := (sI Y 46 0 (ix a1) (gI Y.1 46 0 (ix a2)))) (pc' := 10) (ls' := [(0, aR 46 0), (1, aI a1), (2, aI a2), (3, aI (gI Y.1 46 0 (ix a1)))]) (st' := []) (cs' := [vp_in a2 5, vp_in a1 5, allw 46 0]) (fun _ => rfl) rfl (al2 (vin hc2) (al2 (vin hc1) (al1 rfl))) ?_
  replace h := wr_some h
  generalize (sI Y 46 0 (ix a1) (gI Y.1 46 0 (ix a2))) = Y3 at h ⊢
  refine w_sw k48 4 (Z := (sI Y3 46 0 (ix a2) (gI Y.1 46 0 (ix a1)))) (pc' := 14) (ls' := [(0, aR 46 0), (1, aI a1), (2, aI a2), (3, aI (gI Y.1 46 0 (ix a1)))]) (st' := []) (cs' := [vp_in a2 5, allw 46 0]) (fun _ => rfl) rfl (al2 (vin hc2) (al1 rfl)) ?_
  replace h := wr_some h
  generalize (sI Y3 46 0 (ix a2) (gI Y.1 46 0 (ix a1))) = Y4 at h ⊢
  obtain rfl := Option.some.inj h
  exact w_return k48 ⟨rfl, rfl⟩
set_option maxRecDepth 20000 in
set_option maxHeartbeats 4000000 in
/-- BallotBus$Rows.advance -/
theorem sn_47 (a1 : Int32) {Y : Sm} (v : Int32) (Z : Sm) (h : fn_47 a1 Y = some (v, Z)) : Mt 5 0 47 [aR 46 0, aI a1] Y (Rt (some (aI v)) Z) nX := by
  refine Mt_of [(0, aR 46 0), (1, aI a1)] ?_
  generalize ho : (v, Z) = o at h
  have hv9 : v = o.1 := congrArg Prod.fst ho
  have hZ9 : Z = o.2 := congrArg Prod.snd ho
  clear ho
  subst hv9 hZ9
  unfold fn_47 at h
  have L11_0 : ∀ (l2 : Int32) (n : Nat) (l3 : Int32) (Y : Sm) (e4 : (Int32 × Sm) ⊕ (Int32 × Sm)), lp (fun s => fn_47_L11 l2 s.1 s.2) n (l3, Y) = some e4 → (∀ s9 : (Int32 × Sm), e4 = .inl s9 → Wm 5 0 47 0 32 [(0, aR 46 0), (2, aI l2), (3, aI s9.1)] [] s9.2 (Rt (some (aI o.1)) o.2) nX) → (∀ r, e4 = .inr r → r = o) → Wm 5 0 47 0 11 [(0, aR 46 0), (2, aI l2), (3, aI l3)] [] Y (Rt (some (aI o.1)) o.2) nX := by
    intro l2 n
    induction n with
    | zero => intro l3 Y e4 h; cases h
    | succ n ih3 =>
      intro l3 Y e4 h kE5 kR6
      obtain ⟨q1, h, hn2⟩ := lp_succ h
      replace h : fn_47_L11 l2 l3 Y = some q1 := h
      unfold fn_47_L11 at h
      refine w_sg k47 1 (pc' := 12) (ls' := [(0, aR 46 0), (2, aI l2), (3, aI l3)]) (st' := [aI l3]) (cs' := []) (fun _ => rfl) al0 ?_
      refine w_if_lt k47 rfl (fun c => ?_) (fun c => ?_)
      · replace h := if_t c h
        refine w_ls [(0, aR 46 0), (2, aI l2), (3, aI l3)] (lq_c rfl (lq_c rfl (lq_c rfl lq_n))) ?_
        obtain rfl := Option.some.inj h
        obtain rfl := lpn_r hn2
        exact kE5 (l3, Y) rfl
      · replace h := if_f c h
        obtain ⟨hc7, h⟩ := ck_some h
        obtain ⟨hc8, h⟩ := ck_some h
        refine w_sg k47 8 (pc' := 23) (ls' := [(0, aR 46 0), (2, aI l2), (3, aI l3)]) (st' := [aI (gI Y.1 46 0 (ix (l3 + (nI 1)))), aI (gI Y.1 46 0 (ix l3))]) (cs' := [vp_in l3 5, vp_in (l3 + (nI 1)) 5]) (fun _ => rfl) (al2 (vin hc7) (al1 (vin hc8))) ?_
        refine w_icmp_le k47 rfl (fun c => ?_) (fun c => ?_)
        · replace h := if_t c h
          refine w_ls [(0, aR 46 0), (2, aI l2), (3, aI l3)] (lq_c rfl (lq_c rfl (lq_c rfl lq_n))) ?_
          obtain rfl := Option.some.inj h
          obtain rfl := lpn_r hn2
          exact kE5 (l3, Y) rfl
        · replace h := if_f c h
          refine w_sg k47 1 (pc' := 29) (ls' := [(0, aR 46 0), (2, aI l2), (3, aI (l3 + (-1 : Int32)))]) (st' := []) (cs' := []) (fun _ => rfl) al0 ?_
          refine w_sg k47 1 (pc' := 11) (ls' := [(0, aR 46 0), (2, aI l2), (3, aI (l3 + (-1 : Int32)))]) (st' := []) (cs' := []) (fun _ => rfl) al0 ?_
          refine w_ls [(0, aR 46 0), (2, aI l2), (3, aI (l3 + (-1 : Int32)))] (lq_c rfl (lq_c rfl (lq_c rfl lq_n))) ?_
          obtain rfl := Option.some.inj h
          exact ih3 _ _ _ (lpn_l hn2) kE5 kR6
  have L43_0 : ∀ (l2 : Int32) (l3 : Int32) (n : Nat) (l4 : Int32) (Y : Sm) (e12 : (Int32 × Sm) ⊕ (Int32 × Sm)), lp (fun s => fn_47_L43 l2 l3 s.1 s.2) n (l4, Y) = some e12 → (∀ s9 : (Int32 × Sm), e12 = .inl s9 → Wm 5 0 47 0 65 [(0, aR 46 0), (2, aI l2), (3, aI l3), (4, aI s9.1)] [] s9.2 (Rt (some (aI o.1)) o.2) nX) → (∀ r, e12 = .inr r → r = o) → Wm 5 0 47 0 43 [(0, aR 46 0), (2, aI l2), (3, aI l3), (4, aI l4)] [] Y (Rt (some (aI o.1)) o.2) nX := by
    intro l2 l3 n
    induction n with
    | zero => intro l4 Y e12 h; cases h
    | succ n ih11 =>
      intro l4 Y e12 h kE13 kR14
      obtain ⟨q9, h, hn10⟩ := lp_succ h
      replace h : fn_47_L43 l2 l3 l4 Y = some q9 := h
      unfold fn_47_L43 at h
      refine w_sg k47 2 (pc' := 46) (ls' := [(0, aR 46 0), (2, aI l2), (3, aI l3), (4, aI l4)]) (st' := [aI l3, aI l4]) (cs' := []) (fun _ => rfl) al0 ?_
      refine w_icmp_le k47 rfl (fun c => ?_) (fun c => ?_)
      · replace h := if_t c h
        refine w_ls [(0, aR 46 0), (2, aI l2), (3, aI l3), (4, aI l4)] (lq_c rfl (lq_c rfl (lq_c rfl (lq_c rfl lq_n)))) ?_
        obtain rfl := Option.some.inj h
        obtain rfl := lpn_r hn10
        exact kE13 (l4, Y) rfl
      · replace h := if_f c h
        obtain ⟨hc15, h⟩ := ck_some h
        obtain ⟨hc16, h⟩ := ck_some h
        refine w_sg k47 6 (pc' := 56) (ls' := [(0, aR 46 0), (2, aI l2), (3, aI l3), (4, aI l4)]) (st' := [aI (gI Y.1 46 0 (ix l3)), aI (gI Y.1 46 0 (ix l4))]) (cs' := [vp_in l4 5, vp_in l3 5]) (fun _ => rfl) (al2 (vin hc15) (al1 (vin hc16))) ?_
        refine w_icmp_ge k47 rfl (fun c => ?_) (fun c => ?_)
        · replace h := if_t c h
          refine w_ls [(0, aR 46 0), (2, aI l2), (3, aI l3), (4, aI l4)] (lq_c rfl (lq_c rfl (lq_c rfl (lq_c rfl lq_n)))) ?_
          obtain rfl := Option.some.inj h
          obtain rfl := lpn_r hn10
          exact kE13 (l4, Y) rfl
        · replace h := if_f c h
          refine w_sg k47 1 (pc' := 62) (ls' := [(0, aR 46 0), (2, aI l2), (3, aI l3), (4, aI (l4 + (-1 : Int32)))]) (st' := []) (cs' := []) (fun _ => rfl) al0 ?_
          refine w_sg k47 1 (pc' := 43) (ls' := [(0, aR 46 0), (2, aI l2), (3, aI l3), (4, aI (l4 + (-1 : Int32)))]) (st' := []) (cs' := []) (fun _ => rfl) al0 ?_
          refine w_ls [(0, aR 46 0), (2, aI l2), (3, aI l3), (4, aI (l4 + (-1 : Int32)))] (lq_c rfl (lq_c rfl (lq_c rfl (lq_c rfl lq_n)))) ?_
          obtain rfl := Option.some.inj h
          exact ih11 _ _ _ (lpn_l hn10) kE13 kR14
  have L82_0 : ∀ (n : Nat) (l5 : Int32) (l6 : Int32) (Y : Sm), lp (fun s => fn_47_L82 s.1 s.2.1 s.2.2) n (l5, l6, Y) = some o → Wm 5 0 47 0 82 [(0, aR 46 0), (5, aI l5), (6, aI l6)] [] Y (Rt (some (aI o.1)) o.2) nX := by
    intro n
    induction n with
    | zero => intro l5 l6 Y h; cases h
    | succ n ih21 =>
      intro l5 l6 Y h
      obtain ⟨q19, h, hn20⟩ := lp_succ h
      replace h : fn_47_L82 l5 l6 Y = some q19 := h
      unfold fn_47_L82 at h
      refine w_sg k47 2 (pc' := 86) (ls' := [(0, aR 46 0), (5, aI l5), (6, aI l6)]) (st' := [aI l6, aI l5]) (cs' := []) (fun _ => rfl) al0 ?_
      refine w_icmp_ge k47 rfl (fun c => ?_) (fun c => ?_)
      · replace h := if_t c h
        refine w_sg k47 1 (pc' := 107) (ls' := [(0, aR 46 0), (5, aI l5), (6, aI l6)]) (st' := [aI (nI 1)]) (cs' := []) (fun _ => rfl) al0 ?_
        obtain rfl := Option.some.inj h
        obtain rfl := lpn_r hn20
        exact w_zreturn k47 (Or.inr rfl) ⟨rfl, rfl⟩
      · replace h := if_f c h
        refine w_sg k47 3 (pc' := 94) (ls' := [(0, aR 46 0), (5, aI l5), (6, aI l6)]) (st' := [aI l6, aI l5, aR 46 0]) (cs' := []) (fun _ => rfl) al0 ?_
        obtain ⟨_, Y22, hv23, h⟩ := bd_some h
        refine w_cS0 k47 (sn_48 _ _ _ _ hv23) rfl (st := []) rfl ?_ (fun _ _ q => q.elim)
        refine w_sg k47 1 (pc' := 100) (ls' := [(0, aR 46 0), (5, aI (l5 + (nI 1))), (6, aI l6)]) (st' := []) (cs' := []) (fun _ => rfl) al0 ?_
        refine w_sg k47 1 (pc' := 103) (ls' := [(0, aR 46 0), (5, aI (l5 + (nI 1))), (6, aI (l6 + (-1 : Int32)))]) (st' := []) (cs' := []) (fun _ => rfl) al0 ?_
        refine w_sg k47 1 (pc' := 82) (ls' := [(0, aR 46 0), (5, aI (l5 + (nI 1))), (6, aI (l6 + (-1 : Int32)))]) (st' := []) (cs' := []) (fun _ => rfl) al0 ?_
        refine w_ls [(0, aR 46 0), (5, aI (l5 + (nI 1))), (6, aI (l6 + (-1 : Int32)))] (lq_c rfl (lq_c rfl (lq_c rfl lq_n))) ?_
        obtain rfl := Option.some.inj h
        exact ih21 _ _ _ (lpn_l hn20)
  have J65_0 : ∀ (l2 : Int32) (l3 : Int32) (l4 : Int32) (Y : Sm), fn_47_J65 l2 l3 l4 Y = some o → Wm 5 0 47 0 65 [(0, aR 46 0), (2, aI l2), (3, aI l3), (4, aI l4)] [] Y (Rt (some (aI o.1)) o.2) nX := by
    intro l2 l3 l4 Y h
    unfold fn_47_J65 at h
    refine w_sg k47 3 (pc' := 69) (ls' := [(0, aR 46 0), (2, aI l2), (3, aI l3), (4, aI l4)]) (st' := [aI l4, aI l3, aR 46 0]) (cs' := []) (fun _ => rfl) al0 ?_
    obtain ⟨_, Y17, hv18, h⟩ := bd_some h
    refine w_cS0 k47 (sn_48 _ _ _ _ hv18) rfl (st := []) rfl ?_ (fun _ _ q => q.elim)
    refine w_sg k47 4 (pc' := 77) (ls' := [(0, aR 46 0), (2, aI l2), (3, aI l3), (4, aI l4), (5, aI (l3 + (nI 1)))]) (st' := []) (cs' := []) (fun _ => rfl) al0 ?_
    refine w_sg k47 4 (pc' := 82) (ls' := [(0, aR 46 0), (2, aI l2), (3, aI l3), (4, aI l4), (5, aI (l3 + (nI 1))), (6, aI (l2 - (nI 1)))]) (st' := []) (cs' := []) (fun _ => rfl) al0 ?_
    refine w_ls [(0, aR 46 0), (5, aI (l3 + (nI 1))), (6, aI (l2 - (nI 1)))] (lq_c rfl (lq_c rfl (lq_c rfl lq_n))) ?_
    exact L82_0 _ _ _ _ h
  have J32_0 : ∀ (l2 : Int32) (l3 : Int32) (Y : Sm), fn_47_J32 l2 l3 Y = some o → Wm 5 0 47 0 32 [(0, aR 46 0), (2, aI l2), (3, aI l3)] [] Y (Rt (some (aI o.1)) o.2) nX := by
    intro l2 l3 Y h
    unfold fn_47_J32 at h
    refine w_sg k47 1 (pc' := 33) (ls' := [(0, aR 46 0), (2, aI l2), (3, aI l3)]) (st' := [aI l3]) (cs' := []) (fun _ => rfl) al0 ?_
    refine w_if_ge k47 rfl (fun c => ?_) (fun c => ?_)
    · replace h := if_t c h
      refine w_sg k47 4 (pc' := 43) (ls' := [(0, aR 46 0), (2, aI l2), (3, aI l3), (4, aI (l2 - (nI 1)))]) (st' := []) (cs' := []) (fun _ => rfl) al0 ?_
      obtain ⟨e26, hl24, hx25⟩ := exd_some h
      refine w_ls [(0, aR 46 0), (2, aI l2), (3, aI l3), (4, aI (l2 - (nI 1)))] (lq_c rfl (lq_c rfl (lq_c rfl (lq_c rfl lq_n)))) ?_
      refine L43_0 _ _ _ _ _ e26 hl24 (fun s9 hs9 => ?_) (fun r9 hr9 => ?_)
      · subst hs9
        replace h : fn_47_J65 l2 l3 s9.1 s9.2 = some o := hx25
        refine w_ls [(0, aR 46 0), (2, aI l2), (3, aI l3), (4, aI s9.1)] (lq_c rfl (lq_c rfl (lq_c rfl (lq_c rfl lq_n)))) ?_
        exact J65_0 _ _ _ _ h
      · subst hr9
        exact hx25
    · replace h := if_f c h
      refine w_sg k47 1 (pc' := 37) (ls' := [(0, aR 46 0), (2, aI l2), (3, aI l3)]) (st' := [aI (nI 0)]) (cs' := []) (fun _ => rfl) al0 ?_
      obtain rfl := Option.some.inj h
      exact w_zreturn k47 (Or.inl rfl) ⟨rfl, rfl⟩
  refine w_sg k47 5 (pc' := 7) (ls' := [(0, aR 46 0), (1, aI a1), (2, aI (if (nI 5) < a1 then (nI 5) else a1))]) (st' := []) (cs' := []) (fun _ => rfl) al0 ?_
  refine w_sg k47 4 (pc' := 11) (ls' := [(0, aR 46 0), (1, aI a1), (2, aI (if (nI 5) < a1 then (nI 5) else a1)), (3, aI ((if (nI 5) < a1 then (nI 5) else a1) - (nI 2)))]) (st' := []) (cs' := []) (fun _ => rfl) al0 ?_
  obtain ⟨e29, hl27, hx28⟩ := exd_some h
  refine w_ls [(0, aR 46 0), (2, aI (if (nI 5) < a1 then (nI 5) else a1)), (3, aI ((if (nI 5) < a1 then (nI 5) else a1) - (nI 2)))] (lq_c rfl (lq_c rfl (lq_c rfl lq_n))) ?_
  refine L11_0 _ _ _ _ e29 hl27 (fun s9 hs9 => ?_) (fun r9 hr9 => ?_)
  · subst hs9
    replace h : fn_47_J32 (if (nI 5) < a1 then (nI 5) else a1) s9.1 s9.2 = some o := hx28
    refine w_ls [(0, aR 46 0), (2, aI (if (nI 5) < a1 then (nI 5) else a1)), (3, aI s9.1)] (lq_c rfl (lq_c rfl (lq_c rfl lq_n))) ?_
    exact J32_0 _ _ _ h
  · subst hr9
    exact hx28
set_option maxRecDepth 20000 in
set_option maxHeartbeats 4000000 in
/-- BallotBus.middle -/
theorem sn_129 (a1 : Int32) {Y : Sm} (v : (Int32 ⊕ Nat)) (Z : Sm) (h : fn_129 a1 Y = some (v, Z)) : Mt 7 1 129 [aR 0 0, aI a1] Y (Pz (fun v => some (aI v)) v Z) (Ez v Z) := by
  refine Mt_of [(0, aR 0 0), (1, aI a1)] ?_
  generalize ho : (v, Z) = o at h
  have hv9 : v = o.1 := congrArg Prod.fst ho
  have hZ9 : Z = o.2 := congrArg Prod.snd ho
  clear ho
  subst hv9 hZ9
  unfold fn_129 at h
  have L31_1 : ∀ (l1 : Int32) (n : Nat) (l2 : Int32) (l3 : Int32) (l4 : Int32) (Y : Sm), lp (fun s => fn_129_L31_1 l1 s.1 s.2.1 s.2.2.1 s.2.2.2) n (l2, l3, l4, Y) = some o → Wm 7 1 129 1 31 [(0, aR 0 0), (1, aI l1), (2, aI l2), (3, aI l3), (4, aI l4)] [] Y (Pz (fun v => some (aI v)) o.1 o.2) (Ez o.1 o.2) := by
    intro l1 n
    induction n with
    | zero => intro l2 l3 l4 Y h; cases h
    | succ n ih9 =>
      intro l2 l3 l4 Y h
      obtain ⟨q7, h, hn8⟩ := lp_succ h
      replace h : fn_129_L31_1 l1 l2 l3 l4 Y = some q7 := h
      unfold fn_129_L31_1 at h
      have J66_1 : ∀ (l4 : Int32) (l5 : Int32) (Y : Sm), fn_129_J66_1_d1 l1 l4 l5 Y = some q7 → Wm 7 1 129 1 66 [(0, aR 0 0), (1, aI l1), (4, aI l4), (5, aI l5)] [] Y (Pz (fun v => some (aI v)) o.1 o.2) (Ez o.1 o.2) := by
        intro l4 l5 Y h
        unfold fn_129_J66_1_d1 at h
        refine w_sg k129 2 (pc' := 69) (ls' := [(0, aR 0 0), (1, aI l1), (4, aI l4), (5, aI l5), (2, aI l5)]) (st' := []) (cs' := []) (fun _ => rfl) al0 ?_
        refine w_sg k129 4 (pc' := 77) (ls' := [(0, aR 0 0), (1, aI l1), (4, aI l4), (5, aI l5), (2, aI l5)]) (st' := [aR 47 0, aR 46 0]) (cs' := []) (fun _ => rfl) al0 ?_
        obtain ⟨_, Y15, hv16, h⟩ := bd_some h
        refine w_cS0 k129 (sn_44_46_47  _ _ hv16) rfl (st := []) rfl ?_ (fun _ _ q => q.elim)
        refine w_sg k129 5 (pc' := 91) (ls' := [(0, aR 0 0), (1, aI l1), (4, aI l4), (5, aI l5), (2, aI l5)]) (st' := [aI (gI Y15.1 5 (Y15.2 0) 0), aR 46 0]) (cs' := []) (fun _ => rfl) al0 ?_
        obtain ⟨v19, Y17, hv18, h⟩ := bd_some h
        refine w_cS1 k129 (sn_47 _ _ _ hv18) rfl (st := []) rfl ?_ (fun _ _ q => q.elim)
        refine w_sg k129 1 (pc' := 95) (ls' := [(0, aR 0 0), (1, aI l1), (4, aI l4), (5, aI l5), (2, aI l5), (3, aI v19)]) (st' := []) (cs' := []) (fun _ => rfl) al0 ?_
        refine w_sg k129 1 (pc' := 98) (ls' := [(0, aR 0 0), (1, aI l1), (4, aI (l4 + (nI 1))), (5, aI l5), (2, aI l5), (3, aI v19)]) (st' := []) (cs' := []) (fun _ => rfl) al0 ?_
        refine w_sg k129 1 (pc' := 31) (ls' := [(0, aR 0 0), (1, aI l1), (4, aI (l4 + (nI 1))), (5, aI l5), (2, aI l5), (3, aI v19)]) (st' := []) (cs' := []) (fun _ => rfl) al0 ?_
        refine w_ls [(0, aR 0 0), (1, aI l1), (2, aI l5), (3, aI v19), (4, aI (l4 + (nI 1)))] (lq_c rfl (lq_c rfl (lq_c rfl (lq_c rfl (lq_c rfl lq_n))))) ?_
        obtain rfl := Option.some.inj h
        exact ih9 _ _ _ _ (lpn_l hn8)
      refine w_sg k129 1 (pc' := 32) (ls' := [(0, aR 0 0), (1, aI l1), (2, aI l2), (3, aI l3), (4, aI l4)]) (st' := [aI l3]) (cs' := []) (fun _ => rfl) al0 ?_
      refine w_if_eq k129 rfl (fun c => ?_) (fun c => ?_)
      · replace h := if_t c h
        obtain ⟨hc10, h⟩ := ck_some h
        refine w_sg k129 4 (pc' := 107) (ls' := [(0, aR 0 0), (1, aI l1), (2, aI l2), (3, aI l3), (4, aI l4)]) (st' := [aI (gI Y.1 47 0 (ix l1))]) (cs' := [vp_in l1 5]) (fun _ => rfl) (al1 (vin hc10)) ?_
        obtain rfl := Option.some.inj h
        obtain rfl := lpn_r hn8
        exact w_ireturn k129 Pz_l
      · replace h := if_f c h
        refine w_sg k129 2 (pc' := 39) (ls' := [(0, aR 0 0), (1, aI l1), (2, aI l2), (3, aI l3), (4, aI l4)]) (st' := [aI (nI 120), aI l4]) (cs' := []) (fun _ => rfl) al0 ?_
        refine w_icmp_ge k129 rfl (fun c => ?_) (fun c => ?_)
        · replace h := if_t c h
          obtain ⟨hc11, h⟩ := ck_some h
          refine w_sg k129 4 (pc' := 107) (ls' := [(0, aR 0 0), (1, aI l1), (2, aI l2), (3, aI l3), (4, aI l4)]) (st' := [aI (gI Y.1 47 0 (ix l1))]) (cs' := [vp_in l1 5]) (fun _ => rfl) (al1 (vin hc11)) ?_
          obtain rfl := Option.some.inj h
          obtain rfl := lpn_r hn8
          exact w_ireturn k129 Pz_l
        · replace h := if_f c h
          refine w_sg k129 4 (pc' := 50) (ls' := [(0, aR 0 0), (1, aI l1), (2, aI l2), (3, aI l3), (4, aI l4)]) (st' := [aR 46 0, aR 39 0]) (cs' := []) (fun _ => rfl) al0 ?_
          obtain ⟨v14, Y12, hv13, h⟩ := bd_some h
          refine w_cV1 k129 (sn_29  _ _ hv13) rfl (st := []) rfl ?_ (fun _ _ q => q.elim)
          refine w_sg k129 1 (pc' := 55) (ls' := [(0, aR 0 0), (1, aI l1), (2, aI l2), (3, aI l3), (4, aI l4), (5, aI v14)]) (st' := []) (cs' := []) (fun _ => rfl) al0 ?_
          refine w_sg k129 2 (pc' := 57) (ls' := [(0, aR 0 0), (1, aI l1), (2, aI l2), (3, aI l3), (4, aI l4), (5, aI v14)]) (st' := [aI (-1 : Int32), aI l2]) (cs' := []) (fun _ => rfl) al0 ?_
          refine w_icmp_eq k129 rfl (fun c => ?_) (fun c => ?_)
          · replace h := if_t c h
            refine w_ls [(0, aR 0 0), (1, aI l1), (4, aI l4), (5, aI v14)] (lq_c rfl (lq_c rfl (lq_c rfl (lq_c rfl lq_n)))) ?_
            exact J66_1 _ _ _ h
          · replace h := if_f c h
            refine w_sg k129 2 (pc' := 63) (ls' := [(0, aR 0 0), (1, aI l1), (2, aI l2), (3, aI l3), (4, aI l4), (5, aI v14)]) (st' := [aI l2, aI v14]) (cs' := []) (fun _ => rfl) al0 ?_
            refine w_icmp_ge k129 rfl (fun c => ?_) (fun c => ?_)
            · replace h := if_t c h
              refine w_sg k129 5 (pc' := 91) (ls' := [(0, aR 0 0), (1, aI l1), (2, aI l2), (3, aI l3), (4, aI l4), (5, aI v14)]) (st' := [aI (gI Y12.1 5 (Y12.2 0) 0), aR 46 0]) (cs' := []) (fun _ => rfl) al0 ?_
              obtain ⟨v22, Y20, hv21, h⟩ := bd_some h
              refine w_cS1 k129 (sn_47 _ _ _ hv21) rfl (st := []) rfl ?_ (fun _ _ q => q.elim)
              refine w_sg k129 1 (pc' := 95) (ls' := [(0, aR 0 0), (1, aI l1), (2, aI l2), (3, aI v22), (4, aI l4), (5, aI v14)]) (st' := []) (cs' := []) (fun _ => rfl) al0 ?_
              refine w_sg k129 1 (pc' := 98) (ls' := [(0, aR 0 0), (1, aI l1), (2, aI l2), (3, aI v22), (4, aI (l4 + (nI 1))), (5, aI v14)]) (st' := []) (cs' := []) (fun _ => rfl) al0 ?_
              refine w_sg k129 1 (pc' := 31) (ls' := [(0, aR 0 0), (1, aI l1), (2, aI l2), (3, aI v22), (4, aI (l4 + (nI 1))), (5, aI v14)]) (st' := []) (cs' := []) (fun _ => rfl) al0 ?_
              refine w_ls [(0, aR 0 0), (1, aI l1), (2, aI l2), (3, aI v22), (4, aI (l4 + (nI 1)))] (lq_c rfl (lq_c rfl (lq_c rfl (lq_c rfl (lq_c rfl lq_n))))) ?_
              obtain rfl := Option.some.inj h
              exact ih9 _ _ _ _ (lpn_l hn8)
            · replace h := if_f c h
              refine w_ls [(0, aR 0 0), (1, aI l1), (4, aI l4), (5, aI v14)] (lq_c rfl (lq_c rfl (lq_c rfl (lq_c rfl lq_n)))) ?_
              exact J66_1 _ _ _ h
  refine w_sg k129 2 (pc' := 2) (ls' := [(0, aR 0 0), (1, aI a1)]) (st' := [aI a1, aR 0 0]) (cs' := []) (fun _ => rfl) al0 ?_
  obtain ⟨o24, Y1, hv2, ⟨_, ho25, h⟩ | ⟨x23, ho25, h⟩⟩ := bx_some h
  · subst ho25
    refine w_cV0 k129 (sn_155 _ _ _ hv2) rfl (st := []) rfl ?_ (fun _ _ q => q.elim)
    refine w_sg k129 5 (pc' := 14) (ls' := [(0, aR 0 0), (1, aI a1)]) (st' := [aI (-1 : Int32), aR 21 0, aR 39 0]) (cs' := []) (fun _ => rfl) al0 ?_
    obtain ⟨_, Y3, hv4, h⟩ := bd_some h
    refine w_cV0 k129 (sn_25 _ _ _ _ hv4) rfl (st := []) rfl ?_ (fun _ _ q => q.elim)
    refine w_sg k129 2 (pc' := 21) (ls' := [(0, aR 0 0), (1, aI a1)]) (st' := [aR 46 0]) (cs' := []) (fun _ => rfl) al0 ?_
    obtain ⟨_, Y5, hv6, h⟩ := bd_some h
    refine w_cS0 k129 (sn_43_46  _ _ hv6) rfl (st := []) rfl ?_ (fun _ _ q => q.elim)
    refine w_sg k129 2 (pc' := 26) (ls' := [(0, aR 0 0), (1, aI a1), (2, aI (-1 : Int32))]) (st' := []) (cs' := []) (fun _ => rfl) al0 ?_
    refine w_sg k129 2 (pc' := 28) (ls' := [(0, aR 0 0), (1, aI a1), (2, aI (-1 : Int32)), (3, aI (nI 1))]) (st' := []) (cs' := []) (fun _ => rfl) al0 ?_
    refine w_sg k129 2 (pc' := 31) (ls' := [(0, aR 0 0), (1, aI a1), (2, aI (-1 : Int32)), (3, aI (nI 1)), (4, aI (nI 0))]) (st' := []) (cs' := []) (fun _ => rfl) al0 ?_
    refine w_ls [(0, aR 0 0), (1, aI a1), (2, aI (-1 : Int32)), (3, aI (nI 1)), (4, aI (nI 0))] (lq_c rfl (lq_c rfl (lq_c rfl (lq_c rfl (lq_c rfl lq_n))))) ?_
    exact L31_1 _ _ _ _ _ _ h
  · subst ho25
    obtain rfl := Option.some.inj h
    exact w_xcallV k129 (sn_155 _ _ _ hv2) rfl (st := []) rfl Ez_r
set_option maxRecDepth 20000 in
set_option maxHeartbeats 4000000 in
/-- BallotBus.meanWait -/
theorem sn_130 (a1 : Int32) {Y : Sm} (v : (UInt64 ⊕ Nat)) (Z : Sm) (h : fn_130 a1 Y = some (v, Z)) : Mt 7 1 130 [aR 0 0, aI a1] Y (Pz (fun v => some (aD v)) v Z) (Ez v Z) := by
  refine Mt_of [(0, aR 0 0), (1, aI a1)] ?_
  generalize ho : (v, Z) = o at h
  have hv9 : v = o.1 := congrArg Prod.fst ho
  have hZ9 : Z = o.2 := congrArg Prod.snd ho
  clear ho
  subst hv9 hZ9
  unfold fn_130 at h
  refine w_sg k130 2 (pc' := 2) (ls' := [(0, aR 0 0), (1, aI a1)]) (st' := [aI a1, aR 0 0]) (cs' := []) (fun _ => rfl) al0 ?_
  obtain ⟨o6, Y1, hv2, ⟨_, ho7, h⟩ | ⟨x5, ho7, h⟩⟩ := bx_some h
  · subst ho7
    refine w_cV0 k130 (sn_155 _ _ _ hv2) rfl (st := []) rfl ?_ (fun _ _ q => q.elim)
    obtain ⟨hc3, h⟩ := ck_some h
    refine w_sg k130 6 (pc' := 15) (ls' := [(0, aR 0 0), (1, aI a1), (2, aI (gI Y1.1 24 0 (ix a1)))]) (st' := []) (cs' := [vp_in a1 5]) (fun _ => rfl) (al1 (vin hc3)) ?_
    refine w_sg k130 1 (pc' := 16) (ls' := [(0, aR 0 0), (1, aI a1), (2, aI (gI Y1.1 24 0 (ix a1)))]) (st' := [aI (gI Y1.1 24 0 (ix a1))]) (cs' := []) (fun _ => rfl) al0 ?_
    refine w_if_ne k130 rfl (fun c => ?_) (fun c => ?_)
    · replace h := if_f c h
      refine w_sg k130 8 (pc' := 35) (ls' := [(0, aR 0 0), (1, aI a1), (2, aI (gI Y1.1 24 0 (ix a1)))]) (st' := [aD (FP.i2d (gI Y1.1 24 0 (ix a1))), aD (FP.l2d (gJ Y1.1 25 0 (ix a1)))]) (cs' := [vp_in a1 5]) (fun _ => rfl) (al1 (vin hc3)) ?_
      obtain ⟨hc4, h⟩ := ck_some h
      refine w_sg k130 1 (pc' := 36) (ls' := [(0, aR 0 0), (1, aI a1), (2, aI (gI Y1.1 24 0 (ix a1)))]) (st' := [aD (FP.ddiv (FP.l2d (gJ Y1.1 25 0 (ix a1))) (FP.i2d (gI Y1.1 24 0 (ix a1))))]) (cs' := [vf_n64 (FP.ddiv (FP.l2d (gJ Y1.1 25 0 (ix a1))) (FP.i2d (gI Y1.1 24 0 (ix a1))))]) (fun _ => rfl) (al1 (nn64_of hc4)) ?_
      obtain rfl := Option.some.inj h
      exact w_dreturn k130 Pz_l
    · replace h := if_t c h
      refine w_sg k130 2 (pc' := 36) (ls' := [(0, aR 0 0), (1, aI a1), (2, aI (gI Y1.1 24 0 (ix a1)))]) (st' := [aD FP.dconst0]) (cs' := []) (fun _ => rfl) al0 ?_
      obtain rfl := Option.some.inj h
      exact w_dreturn k130 Pz_l
  · subst ho7
    obtain rfl := Option.some.inj h
    exact w_xcallV k130 (sn_155 _ _ _ hv2) rfl (st := []) rfl Ez_r
set_option maxRecDepth 20000 in
set_option maxHeartbeats 4000000 in
/-- BallotBus.share -/
theorem sn_131 (a1 : Int32) {Y : Sm} (v : (UInt32 ⊕ Nat)) (Z : Sm) (h : fn_131 a1 Y = some (v, Z)) : Mt 7 1 131 [aR 0 0, aI a1] Y (Pz (fun v => some (aF v)) v Z) (Ez v Z) := by
  refine Mt_of [(0, aR 0 0), (1, aI a1)] ?_
  generalize ho : (v, Z) = o at h
  have hv9 : v = o.1 := congrArg Prod.fst ho
  have hZ9 : Z = o.2 := congrArg Prod.snd ho
  clear ho
  subst hv9 hZ9
  unfold fn_131 at h
  have L9_1 : ∀ (l1 : Int32) (n : Nat) (l2 : Int32) (l3 : Int32) (Y : Sm) (e6 : (Int32 × Sm) ⊕ ((UInt32 ⊕ Nat) × Sm)), lp (fun s => fn_131_L9_1 l1 s.1 s.2.1 s.2.2) n (l2, l3, Y) = some e6 → (∀ s9 : (Int32 × Sm), e6 = .inl s9 → Wm 7 1 131 1 41 [(0, aR 0 0), (1, aI l1), (2, aI s9.1)] [] s9.2 (Pz (fun v => some (aF v)) o.1 o.2) (Ez o.1 o.2)) → (∀ r, e6 = .inr r → r = o) → Wm 7 1 131 1 9 [(0, aR 0 0), (1, aI l1), (2, aI l2), (3, aI l3)] [] Y (Pz (fun v => some (aF v)) o.1 o.2) (Ez o.1 o.2) := by
    intro l1 n
    induction n with
    | zero => intro l2 l3 Y e6 h; cases h
    | succ n ih5 =>
      intro l2 l3 Y e6 h kE7 kR8
      obtain ⟨q3, h, hn4⟩ := lp_succ h
      replace h : fn_131_L9_1 l1 l2 l3 Y = some q3 := h
      unfold fn_131_L9_1 at h
      refine w_sg k131 4 (pc' := 17) (ls' := [(0, aR 0 0), (1, aI l1), (2, aI l2), (3, aI l3)]) (st' := [aI (gI Y.1 5 (Y.2 0) 3), aI l3]) (cs' := []) (fun _ => rfl) al0 ?_
      refine w_icmp_ge k131 rfl (fun c => ?_) (fun c => ?_)
      · replace h := if_t c h
        refine w_ls [(0, aR 0 0), (1, aI l1), (2, aI l2)] (lq_c rfl (lq_c rfl (lq_c rfl lq_n))) ?_
        obtain rfl := Option.some.inj h
        obtain rfl := lpn_r hn4
        exact kE7 (l2, Y) rfl
      · replace h := if_f c h
        obtain ⟨hc9, h⟩ := ck_some h
        refine w_sg k131 8 (pc' := 34) (ls' := [(0, aR 0 0), (1, aI l1), (2, aI l2), (3, aI l3)]) (st' := [aI (l2 + (gI Y.1 33 0 (ix l3)))]) (cs' := [vp_in l3 8]) (fun _ => rfl) (al1 (vin hc9)) ?_
        refine w_sg k131 1 (pc' := 35) (ls' := [(0, aR 0 0), (1, aI l1), (2, aI (l2 + (gI Y.1 33 0 (ix l3)))), (3, aI l3)]) (st' := []) (cs' := []) (fun _ => rfl) al0 ?_
        refine w_sg k131 1 (pc' := 38) (ls' := [(0, aR 0 0), (1, aI l1), (2, aI (l2 + (gI Y.1 33 0 (ix l3)))), (3, aI (l3 + (nI 1)))]) (st' := []) (cs' := []) (fun _ => rfl) al0 ?_
        refine w_sg k131 1 (pc' := 9) (ls' := [(0, aR 0 0), (1, aI l1), (2, aI (l2 + (gI Y.1 33 0 (ix l3)))), (3, aI (l3 + (nI 1)))]) (st' := []) (cs' := []) (fun _ => rfl) al0 ?_
        refine w_ls [(0, aR 0 0), (1, aI l1), (2, aI (l2 + (gI Y.1 33 0 (ix l3)))), (3, aI (l3 + (nI 1)))] (lq_c rfl (lq_c rfl (lq_c rfl (lq_c rfl lq_n)))) ?_
        obtain rfl := Option.some.inj h
        exact ih5 _ _ _ _ (lpn_l hn4) kE7 kR8
  have J41_1 : ∀ (l1 : Int32) (l2 : Int32) (Y : Sm), fn_131_J41_1 l1 l2 Y = some o → Wm 7 1 131 1 41 [(0, aR 0 0), (1, aI l1), (2, aI l2)] [] Y (Pz (fun v => some (aF v)) o.1 o.2) (Ez o.1 o.2) := by
    intro l1 l2 Y h
    unfold fn_131_J41_1 at h
    refine w_sg k131 1 (pc' := 42) (ls' := [(0, aR 0 0), (1, aI l1), (2, aI l2)]) (st' := [aI l2]) (cs' := []) (fun _ => rfl) al0 ?_
    refine w_if_ne k131 rfl (fun c => ?_) (fun c => ?_)
    · replace h := if_f c h
      obtain ⟨hc10, h⟩ := ck_some h
      refine w_sg k131 8 (pc' := 63) (ls' := [(0, aR 0 0), (1, aI l1), (2, aI l2)]) (st' := [aI l2, aF (FP.i2f (gI Y.1 33 0 (ix l1)))]) (cs' := [vp_in l1 8]) (fun _ => rfl) (al1 (vin hc10)) ?_
      obtain ⟨hc11, h⟩ := ck_some h
      refine w_sg k131 2 (pc' := 65) (ls' := [(0, aR 0 0), (1, aI l1), (2, aI l2)]) (st' := [aF (FP.fdiv (FP.i2f (gI Y.1 33 0 (ix l1))) (FP.i2f l2))]) (cs' := [vf_n32 (FP.fdiv (FP.i2f (gI Y.1 33 0 (ix l1))) (FP.i2f l2))]) (fun _ => rfl) (al1 (nn32_of hc11)) ?_
      obtain rfl := Option.some.inj h
      exact w_freturn k131 Pz_l
    · replace h := if_t c h
      refine w_sg k131 2 (pc' := 65) (ls' := [(0, aR 0 0), (1, aI l1), (2, aI l2)]) (st' := [aF FP.fconst0]) (cs' := []) (fun _ => rfl) al0 ?_
      obtain rfl := Option.some.inj h
      exact w_freturn k131 Pz_l
  refine w_sg k131 2 (pc' := 2) (ls' := [(0, aR 0 0), (1, aI a1)]) (st' := [aI a1, aR 0 0]) (cs' := []) (fun _ => rfl) al0 ?_
  obtain ⟨o16, Y1, hv2, ⟨_, ho17, h⟩ | ⟨x15, ho17, h⟩⟩ := bx_some h
  · subst ho17
    refine w_cV0 k131 (sn_154 _ _ _ hv2) rfl (st := []) rfl ?_ (fun _ _ q => q.elim)
    refine w_sg k131 2 (pc' := 7) (ls' := [(0, aR 0 0), (1, aI a1), (2, aI (nI 0))]) (st' := []) (cs' := []) (fun _ => rfl) al0 ?_
    refine w_sg k131 2 (pc' := 9) (ls' := [(0, aR 0 0), (1, aI a1), (2, aI (nI 0)), (3, aI (nI 0))]) (st' := []) (cs' := []) (fun _ => rfl) al0 ?_
    obtain ⟨e14, hl12, hx13⟩ := exd_some h
    refine w_ls [(0, aR 0 0), (1, aI a1), (2, aI (nI 0)), (3, aI (nI 0))] (lq_c rfl (lq_c rfl (lq_c rfl (lq_c rfl lq_n)))) ?_
    refine L9_1 _ _ _ _ _ e14 hl12 (fun s9 hs9 => ?_) (fun r9 hr9 => ?_)
    · subst hs9
      replace h : fn_131_J41_1 a1 s9.1 s9.2 = some o := hx13
      refine w_ls [(0, aR 0 0), (1, aI a1), (2, aI s9.1)] (lq_c rfl (lq_c rfl (lq_c rfl lq_n))) ?_
      exact J41_1 _ _ _ h
    · subst hr9
      exact hx13
  · subst ho17
    obtain rfl := Option.some.inj h
    exact w_xcallV k131 (sn_154 _ _ _ hv2) rfl (st := []) rfl Ez_r
set_option maxRecDepth 20000 in
set_option maxHeartbeats 4000000 in
/-- BallotBus.debts -/
theorem sn_132 {Y : Sm} (v : Int32) (Z : Sm) (h : fn_132 Y = some (v, Z)) : Mt 4 0 132 [aR 0 0] Y (Rt (some (aI v)) Z) nX := by
  refine Mt_of [(0, aR 0 0)] ?_
  generalize ho : (v, Z) = o at h
  have hv9 : v = o.1 := congrArg Prod.fst ho
  have hZ9 : Z = o.2 := congrArg Prod.snd ho
  clear ho
  subst hv9 hZ9
  unfold fn_132 at h
  have L4_0 : ∀ (n : Nat) (l1 : Int32) (l2 : Int32) (Y : Sm), lp (fun s => fn_132_L4 s.1 s.2.1 s.2.2) n (l1, l2, Y) = some o → Wm 4 0 132 0 4 [(0, aR 0 0), (1, aI l1), (2, aI l2)] [] Y (Rt (some (aI o.1)) o.2) nX := by
    intro n
    induction n with
    | zero => intro l1 l2 Y h; cases h
    | succ n ih3 =>
      intro l1 l2 Y h
      obtain ⟨q1, h, hn2⟩ := lp_succ h
      replace h : fn_132_L4 l1 l2 Y = some q1 := h
      unfold fn_132_L4 at h
      refine w_sg k132 4 (pc' := 12) (ls' := [(0, aR 0 0), (1, aI l1), (2, aI l2)]) (st' := [aI (gI Y.1 5 (Y.2 0) 3), aI l2]) (cs' := []) (fun _ => rfl) al0 ?_
      refine w_icmp_ge k132 rfl (fun c => ?_) (fun c => ?_)
      · replace h := if_t c h
        refine w_sg k132 1 (pc' := 37) (ls' := [(0, aR 0 0), (1, aI l1), (2, aI l2)]) (st' := [aI l1]) (cs' := []) (fun _ => rfl) al0 ?_
        obtain rfl := Option.some.inj h
        obtain rfl := lpn_r hn2
        exact w_ireturn k132 ⟨rfl, rfl⟩
      · replace h := if_f c h
        obtain ⟨hc4, h⟩ := ck_some h
        refine w_sg k132 8 (pc' := 29) (ls' := [(0, aR 0 0), (1, aI l1), (2, aI l2)]) (st' := [aI (l1 + (gI Y.1 30 0 (ix l2)))]) (cs' := [vp_in l2 8]) (fun _ => rfl) (al1 (vin hc4)) ?_
        refine w_sg k132 1 (pc' := 30) (ls' := [(0, aR 0 0), (1, aI (l1 + (gI Y.1 30 0 (ix l2)))), (2, aI l2)]) (st' := []) (cs' := []) (fun _ => rfl) al0 ?_
        refine w_sg k132 1 (pc' := 33) (ls' := [(0, aR 0 0), (1, aI (l1 + (gI Y.1 30 0 (ix l2)))), (2, aI (l2 + (nI 1)))]) (st' := []) (cs' := []) (fun _ => rfl) al0 ?_
        refine w_sg k132 1 (pc' := 4) (ls' := [(0, aR 0 0), (1, aI (l1 + (gI Y.1 30 0 (ix l2)))), (2, aI (l2 + (nI 1)))]) (st' := []) (cs' := []) (fun _ => rfl) al0 ?_
        refine w_ls [(0, aR 0 0), (1, aI (l1 + (gI Y.1 30 0 (ix l2)))), (2, aI (l2 + (nI 1)))] (lq_c rfl (lq_c rfl (lq_c rfl lq_n))) ?_
        obtain rfl := Option.some.inj h
        exact ih3 _ _ _ (lpn_l hn2)
  refine w_sg k132 2 (pc' := 2) (ls' := [(0, aR 0 0), (1, aI (nI 0))]) (st' := []) (cs' := []) (fun _ => rfl) al0 ?_
  refine w_sg k132 2 (pc' := 4) (ls' := [(0, aR 0 0), (1, aI (nI 0)), (2, aI (nI 0))]) (st' := []) (cs' := []) (fun _ => rfl) al0 ?_
  refine w_ls [(0, aR 0 0), (1, aI (nI 0)), (2, aI (nI 0))] (lq_c rfl (lq_c rfl (lq_c rfl lq_n))) ?_
  exact L4_0 _ _ _ _ h
set_option maxRecDepth 20000 in
set_option maxHeartbeats 4000000 in
/-- BallotBus$Accounts.balance -/
theorem sn_3 (i0 : Nat) (a1 : Int32) {Y : Sm} (v : Int32) (Z : Sm) (h : fn_3 i0 a1 Y = some (v, Z)) : Mt 4 0 3 [aR 28 i0, aI a1] Y (Rt (some (aI v)) Z) nX := by
  refine Mt_of [(0, aR 28 i0), (1, aI a1)] ?_
  generalize ho : (v, Z) = o at h
  have hv9 : v = o.1 := congrArg Prod.fst ho
  have hZ9 : Z = o.2 := congrArg Prod.snd ho
  clear ho
  subst hv9 hZ9
  unfold fn_3 at h
  obtain ⟨hc1, h⟩ := ck_some h
  refine w_sg k3 8 (pc' := 12) (ls' := [(0, aR 28 i0), (1, aI a1)]) (st' := [aI (gI Y.1 30 i0 (ix a1)), aI (gI Y.1 29 i0 (ix a1))]) (cs' := [vp_in a1 8, vp_in a1 8]) (fun _ => rfl) (al2 (vin hc1) (al1 (vin hc1))) ?_
  refine w_sg k3 1 (pc' := 13) (ls' := [(0, aR 28 i0), (1, aI a1)]) (st' := [aI ((gI Y.1 29 i0 (ix a1)) - (gI Y.1 30 i0 (ix a1)))]) (cs' := []) (fun _ => rfl) al0 ?_
  obtain rfl := Option.some.inj h
  exact w_ireturn k3 ⟨rfl, rfl⟩
set_option maxRecDepth 20000 in
set_option maxHeartbeats 4000000 in
/-- BallotBus.richest -/
theorem sn_133 {Y : Sm} (v : Int32) (Z : Sm) (h : fn_133 Y = some (v, Z)) : Mt 5 0 133 [aR 0 0] Y (Rt (some (aI v)) Z) nX := by
  refine Mt_of [(0, aR 0 0)] ?_
  generalize ho : (v, Z) = o at h
  have hv9 : v = o.1 := congrArg Prod.fst ho
  have hZ9 : Z = o.2 := congrArg Prod.snd ho
  clear ho
  subst hv9 hZ9
  unfold fn_133 at h
  have L4_0 : ∀ (n : Nat) (l1 : Int32) (l2 : Int32) (Y : Sm), lp (fun s => fn_133_L4 s.1 s.2.1 s.2.2) n (l1, l2, Y) = some o → Wm 5 0 133 0 4 [(0, aR 0 0), (1, aI l1), (2, aI l2)] [] Y (Rt (some (aI o.1)) o.2) nX := by
    intro n
    induction n with
    | zero => intro l1 l2 Y h; cases h
    | succ n ih3 =>
      intro l1 l2 Y h
      obtain ⟨q1, h, hn2⟩ := lp_succ h
      replace h : fn_133_L4 l1 l2 Y = some q1 := h
      unfold fn_133_L4 at h
      refine w_sg k133 4 (pc' := 12) (ls' := [(0, aR 0 0), (1, aI l1), (2, aI l2)]) (st' := [aI (gI Y.1 5 (Y.2 0) 3), aI l2]) (cs' := []) (fun _ => rfl) al0 ?_
      refine w_icmp_ge k133 rfl (fun c => ?_) (fun c => ?_)
      · replace h := if_t c h
        refine w_sg k133 1 (pc' := 49) (ls' := [(0, aR 0 0), (1, aI l1), (2, aI l2)]) (st' := [aI l1]) (cs' := []) (fun _ => rfl) al0 ?_
        obtain rfl := Option.some.inj h
        obtain rfl := lpn_r hn2
        exact w_ireturn k133 ⟨rfl, rfl⟩
      · replace h := if_f c h
        refine w_sg k133 4 (pc' := 23) (ls' := [(0, aR 0 0), (1, aI l1), (2, aI l2)]) (st' := [aI l2, aR 28 0]) (cs' := []) (fun _ => rfl) al0 ?_
        obtain ⟨v6, Y4, hv5, h⟩ := bd_some h
        refine w_cV1 k133 (sn_3 _ _ _ _ hv5) rfl (st := []) rfl ?_ (fun _ _ q => q.elim)
        refine w_sg k133 4 (pc' := 34) (ls' := [(0, aR 0 0), (1, aI l1), (2, aI l2)]) (st' := [aI l1, aR 28 0, aI v6]) (cs' := []) (fun _ => rfl) al0 ?_
        obtain ⟨v9, Y7, hv8, h⟩ := bd_some h
        refine w_cV1 k133 (sn_3 _ _ _ _ hv8) rfl (st := [aI v6]) rfl ?_ (fun _ _ q => q.elim)
        refine w_icmp_le k133 rfl (fun c => ?_) (fun c => ?_)
        · replace h := if_t c h
          refine w_sg k133 1 (pc' := 45) (ls' := [(0, aR 0 0), (1, aI l1), (2, aI (l2 + (nI 1)))]) (st' := []) (cs' := []) (fun _ => rfl) al0 ?_
          refine w_sg k133 1 (pc' := 4) (ls' := [(0, aR 0 0), (1, aI l1), (2, aI (l2 + (nI 1)))]) (st' := []) (cs' := []) (fun _ => rfl) al0 ?_
          refine w_ls [(0, aR 0 0), (1, aI l1), (2, aI (l2 + (nI 1)))] (lq_c rfl (lq_c rfl (lq_c rfl lq_n))) ?_
          obtain rfl := Option.some.inj h
          exact ih3 _ _ _ (lpn_l hn2)
        · replace h := if_f c h
          refine w_sg k133 2 (pc' := 42) (ls' := [(0, aR 0 0), (1, aI l2), (2, aI l2)]) (st' := []) (cs' := []) (fun _ => rfl) al0 ?_
          refine w_sg k133 1 (pc' := 45) (ls' := [(0, aR 0 0), (1, aI l2), (2, aI (l2 + (nI 1)))]) (st' := []) (cs' := []) (fun _ => rfl) al0 ?_
          refine w_sg k133 1 (pc' := 4) (ls' := [(0, aR 0 0), (1, aI l2), (2, aI (l2 + (nI 1)))]) (st' := []) (cs' := []) (fun _ => rfl) al0 ?_
          refine w_ls [(0, aR 0 0), (1, aI l2), (2, aI (l2 + (nI 1)))] (lq_c rfl (lq_c rfl (lq_c rfl lq_n))) ?_
          obtain rfl := Option.some.inj h
          exact ih3 _ _ _ (lpn_l hn2)
  refine w_sg k133 2 (pc' := 2) (ls' := [(0, aR 0 0), (1, aI (nI 0))]) (st' := []) (cs' := []) (fun _ => rfl) al0 ?_
  refine w_sg k133 2 (pc' := 4) (ls' := [(0, aR 0 0), (1, aI (nI 0)), (2, aI (nI 1))]) (st' := []) (cs' := []) (fun _ => rfl) al0 ?_
  refine w_ls [(0, aR 0 0), (1, aI (nI 0)), (2, aI (nI 1))] (lq_c rfl (lq_c rfl (lq_c rfl lq_n))) ?_
  exact L4_0 _ _ _ _ h
set_option maxRecDepth 20000 in
set_option maxHeartbeats 4000000 in
/-- BallotBus.checkTicks -/
theorem sn_157 (a1 : Int32) (a2 : Int32) {Y : Sm} (v : (Unit ⊕ Nat)) (Z : Sm) (h : fn_157 a1 a2 Y = some (v, Z)) : Mt 6 1 157 [aR 0 0, aI a1, aI a2] Y (Pz (fun _ => none) v Z) (Ez v Z) := by
  refine Mt_of [(0, aR 0 0), (1, aI a1), (2, aI a2)] ?_
  generalize ho : (v, Z) = o at h
  have hv9 : v = o.1 := congrArg Prod.fst ho
  have hZ9 : Z = o.2 := congrArg Prod.snd ho
  clear ho
  subst hv9 hZ9
  unfold fn_157 at h
  refine w_sg k157 2 (pc' := 2) (ls' := [(0, aR 0 0), (1, aI a1), (2, aI a2)]) (st' := [aI (nI 1), aI a1]) (cs' := []) (fun _ => rfl) al0 ?_
  refine w_icmp_lt k157 rfl (fun c => ?_) (fun c => ?_)
  · replace h := if_t c h
    obtain rfl := Option.some.inj h
    exact w_throw k157 rfl rfl Ez_r
  · replace h := if_f c h
    refine w_sg k157 2 (pc' := 7) (ls' := [(0, aR 0 0), (1, aI a1), (2, aI a2)]) (st' := [aI a2, aI a1]) (cs' := []) (fun _ => rfl) al0 ?_
    refine w_icmp_le k157 rfl (fun c => ?_) (fun c => ?_)
    · replace h := if_t c h
      obtain rfl := Option.some.inj h
      exact w_return k157 Pz_l
    · replace h := if_f c h
      obtain rfl := Option.some.inj h
      exact w_throw k157 rfl rfl Ez_r
set_option maxRecDepth 20000 in
set_option maxHeartbeats 4000000 in
/-- BallotBus$Rows.copy -/
theorem sn_44_22_22 (i0 : Nat) (i1 : Nat) {Y : Sm} (v : Unit) (Z : Sm) (h : fn_44_22_22 i0 i1 Y = some (v, Z)) : Mt 4 0 44 [aR 22 i0, aR 22 i1] Y (Rt none Z) nX := by
  refine Mt_of [(0, aR 22 i0), (1, aR 22 i1)] ?_
  generalize ho : (v, Z) = o at h
  have hv9 : v = o.1 := congrArg Prod.fst ho
  have hZ9 : Z = o.2 := congrArg Prod.snd ho
  clear ho
  subst hv9 hZ9
  unfold fn_44_22_22 at h
  refine w_sg k44 8 (pc' := 8) (ls' := [(0, aR 22 i0), (1, aR 22 i1)]) (st' := [aI (nI 5), aI (nI 5), aI (nI 0), aR 22 i1, aI (nI 0), aR 22 i0]) (cs' := []) (fun _ => rfl) al0 ?_
  refine w_sw k44 2 (Z := (sC Y 22 i0 0 22 i1 0 5)) (pc' := 14) (ls' := [(0, aR 22 i0), (1, aR 22 i1)]) (st' := []) (cs' := [¬ (nI 0) < 0, ¬ (nI 0) < 0, ¬ (nI 5) < 0, 0 + 5 ≤ 5, 0 + 5 ≤ 5, allw 22 i1]) (fun _ => rfl) rfl (al2 (by decide) (al2 (by decide) (al2 (by decide) (al2 (by decide) (al2 (by decide) (al1 rfl)))))) ?_
  replace h := wr_some h
  generalize (sC Y 22 i0 0 22 i1 0 5) = Y1 at h ⊢
  obtain rfl := Option.some.inj h
  exact w_return k44 ⟨rfl, rfl⟩
set_option maxRecDepth 20000 in
set_option maxHeartbeats 4000000 in
/-- BallotBus$Rows.copy -/
theorem sn_44_23_23 (i0 : Nat) (i1 : Nat) {Y : Sm} (v : Unit) (Z : Sm) (h : fn_44_23_23 i0 i1 Y = some (v, Z)) : Mt 4 0 44 [aR 23 i0, aR 23 i1] Y (Rt none Z) nX := by
  refine Mt_of [(0, aR 23 i0), (1, aR 23 i1)] ?_
  generalize ho : (v, Z) = o at h
  have hv9 : v = o.1 := congrArg Prod.fst ho
  have hZ9 : Z = o.2 := congrArg Prod.snd ho
  clear ho
  subst hv9 hZ9
  unfold fn_44_23_23 at h
  refine w_sg k44 8 (pc' := 8) (ls' := [(0, aR 23 i0), (1, aR 23 i1)]) (st' := [aI (nI 5), aI (nI 5), aI (nI 0), aR 23 i1, aI (nI 0), aR 23 i0]) (cs' := []) (fun _ => rfl) al0 ?_
  refine w_sw k44 2 (Z := (sC Y 23 i0 0 23 i1 0 5)) (pc' := 14) (ls' := [(0, aR 23 i0), (1, aR 23 i1)]) (st' := []) (cs' := [¬ (nI 0) < 0, ¬ (nI 0) < 0, ¬ (nI 5) < 0, 0 + 5 ≤ 5, 0 + 5 ≤ 5, allw 23 i1]) (fun _ => rfl) rfl (al2 (by decide) (al2 (by decide) (al2 (by decide) (al2 (by decide) (al2 (by decide) (al1 rfl)))))) ?_
  replace h := wr_some h
  generalize (sC Y 23 i0 0 23 i1 0 5) = Y1 at h ⊢
  obtain rfl := Option.some.inj h
  exact w_return k44 ⟨rfl, rfl⟩
set_option maxRecDepth 20000 in
set_option maxHeartbeats 4000000 in
/-- BallotBus$Rows.copy -/
theorem sn_44_24_24 (i0 : Nat) (i1 : Nat) {Y : Sm} (v : Unit) (Z : Sm) (h : fn_44_24_24 i0 i1 Y = some (v, Z)) : Mt 4 0 44 [aR 24 i0, aR 24 i1] Y (Rt none Z) nX := by
  refine Mt_of [(0, aR 24 i0), (1, aR 24 i1)] ?_
  generalize ho : (v, Z) = o at h
  have hv9 : v = o.1 := congrArg Prod.fst ho
  have hZ9 : Z = o.2 := congrArg Prod.snd ho
  clear ho
  subst hv9 hZ9
  unfold fn_44_24_24 at h
  refine w_sg k44 8 (pc' := 8) (ls' := [(0, aR 24 i0), (1, aR 24 i1)]) (st' := [aI (nI 5), aI (nI 5), aI (nI 0), aR 24 i1, aI (nI 0), aR 24 i0]) (cs' := []) (fun _ => rfl) al0 ?_
  refine w_sw k44 2 (Z := (sC Y 24 i0 0 24 i1 0 5)) (pc' := 14) (ls' := [(0, aR 24 i0), (1, aR 24 i1)]) (st' := []) (cs' := [¬ (nI 0) < 0, ¬ (nI 0) < 0, ¬ (nI 5) < 0, 0 + 5 ≤ 5, 0 + 5 ≤ 5, allw 24 i1]) (fun _ => rfl) rfl (al2 (by decide) (al2 (by decide) (al2 (by decide) (al2 (by decide) (al2 (by decide) (al1 rfl)))))) ?_
  replace h := wr_some h
  generalize (sC Y 24 i0 0 24 i1 0 5) = Y1 at h ⊢
  obtain rfl := Option.some.inj h
  exact w_return k44 ⟨rfl, rfl⟩
set_option maxRecDepth 20000 in
set_option maxHeartbeats 4000000 in
/-- BallotBus$Rows.copy -/
theorem sn_44_27_27 (i0 : Nat) (i1 : Nat) {Y : Sm} (v : Unit) (Z : Sm) (h : fn_44_27_27 i0 i1 Y = some (v, Z)) : Mt 4 0 44 [aR 27 i0, aR 27 i1] Y (Rt none Z) nX := by
  refine Mt_of [(0, aR 27 i0), (1, aR 27 i1)] ?_
  generalize ho : (v, Z) = o at h
  have hv9 : v = o.1 := congrArg Prod.fst ho
  have hZ9 : Z = o.2 := congrArg Prod.snd ho
  clear ho
  subst hv9 hZ9
  unfold fn_44_27_27 at h
  refine w_sg k44 8 (pc' := 8) (ls' := [(0, aR 27 i0), (1, aR 27 i1)]) (st' := [aI (nI 5), aI (nI 5), aI (nI 0), aR 27 i1, aI (nI 0), aR 27 i0]) (cs' := []) (fun _ => rfl) al0 ?_
  refine w_sw k44 2 (Z := (sC Y 27 i0 0 27 i1 0 5)) (pc' := 14) (ls' := [(0, aR 27 i0), (1, aR 27 i1)]) (st' := []) (cs' := [¬ (nI 0) < 0, ¬ (nI 0) < 0, ¬ (nI 5) < 0, 0 + 5 ≤ 5, 0 + 5 ≤ 5, allw 27 i1]) (fun _ => rfl) rfl (al2 (by decide) (al2 (by decide) (al2 (by decide) (al2 (by decide) (al2 (by decide) (al1 rfl)))))) ?_
  replace h := wr_some h
  generalize (sC Y 27 i0 0 27 i1 0 5) = Y1 at h ⊢
  obtain rfl := Option.some.inj h
  exact w_return k44 ⟨rfl, rfl⟩
set_option maxRecDepth 20000 in
set_option maxHeartbeats 4000000 in
/-- BallotBus$Accounts.copyFrom -/
theorem sn_2 (i0 : Nat) (i1 : Nat) {Y : Sm} (v : Unit) (Z : Sm) (h : fn_2 i0 i1 Y = some (v, Z)) : Mt 4 0 2 [aR 28 i0, aR 28 i1] Y (Rt none Z) nX := by
  refine Mt_of [(0, aR 28 i0), (1, aR 28 i1)] ?_
  generalize ho : (v, Z) = o at h
  have hv9 : v = o.1 := congrArg Prod.fst ho
  have hZ9 : Z = o.2 := congrArg Prod.snd ho
  clear ho
  subst hv9 hZ9
  unfold fn_2 at h
  refine w_sw k2 8 (Z := (sC Y 29 i1 0 29 i0 0 8)) (pc' := 15) (ls' := [(0, aR 28 i0), (1, aR 28 i1)]) (st' := []) (cs' := [¬ (nI 0) < 0, ¬ (nI 0) < 0, ¬ (nI 8) < 0, 0 + 8 ≤ 8, 0 + 8 ≤ 8, allw 29 i0]) (fun _ => rfl) rfl (al2 (by decide) (al2 (by decide) (al2 (by decide) (al2 (by decide) (al2 (by decide) (al1 rfl)))))) ?_
  replace h := wr_some h
  generalize (sC Y 29 i1 0 29 i0 0 8) = Y1 at h ⊢
  refine w_sw k2 8 (Z := (sC Y1 30 i1 0 30 i0 0 8)) (pc' := 30) (ls' := [(0, aR 28 i0), (1, aR 28 i1)]) (st' := []) (cs' := [¬ (nI 0) < 0, ¬ (nI 0) < 0, ¬ (nI 8) < 0, 0 + 8 ≤ 8, 0 + 8 ≤ 8, allw 30 i0]) (fun _ => rfl) rfl (al2 (by decide) (al2 (by decide) (al2 (by decide) (al2 (by decide) (al2 (by decide) (al1 rfl)))))) ?_
  replace h := wr_some h
  generalize (sC Y1 30 i1 0 30 i0 0 8) = Y2 at h ⊢
  refine w_sw k2 8 (Z := (sC Y2 31 i1 0 31 i0 0 8)) (pc' := 45) (ls' := [(0, aR 28 i0), (1, aR 28 i1)]) (st' := []) (cs' := [¬ (nI 0) < 0, ¬ (nI 0) < 0, ¬ (nI 8) < 0, 0 + 8 ≤ 8, 0 + 8 ≤ 8, allw 31 i0]) (fun _ => rfl) rfl (al2 (by decide) (al2 (by decide) (al2 (by decide) (al2 (by decide) (al2 (by decide) (al1 rfl)))))) ?_
  replace h := wr_some h
  generalize (sC Y2 31 i1 0 31 i0 0 8) = Y3 at h ⊢
  refine w_sw k2 8 (Z := (sC Y3 32 i1 0 32 i0 0 8)) (pc' := 60) (ls' := [(0, aR 28 i0), (1, aR 28 i1)]) (st' := []) (cs' := [¬ (nI 0) < 0, ¬ (nI 0) < 0, ¬ (nI 8) < 0, 0 + 8 ≤ 8, 0 + 8 ≤ 8, allw 32 i0]) (fun _ => rfl) rfl (al2 (by decide) (al2 (by decide) (al2 (by decide) (al2 (by decide) (al2 (by decide) (al1 rfl)))))) ?_
  replace h := wr_some h
  generalize (sC Y3 32 i1 0 32 i0 0 8) = Y4 at h ⊢
  refine w_sw k2 8 (Z := (sC Y4 33 i1 0 33 i0 0 8)) (pc' := 75) (ls' := [(0, aR 28 i0), (1, aR 28 i1)]) (st' := []) (cs' := [¬ (nI 0) < 0, ¬ (nI 0) < 0, ¬ (nI 8) < 0, 0 + 8 ≤ 8, 0 + 8 ≤ 8, allw 33 i0]) (fun _ => rfl) rfl (al2 (by decide) (al2 (by decide) (al2 (by decide) (al2 (by decide) (al2 (by decide) (al1 rfl)))))) ?_
  replace h := wr_some h
  generalize (sC Y4 33 i1 0 33 i0 0 8) = Y5 at h ⊢
  refine w_sw k2 8 (Z := (sC Y5 34 i1 0 34 i0 0 8)) (pc' := 90) (ls' := [(0, aR 28 i0), (1, aR 28 i1)]) (st' := []) (cs' := [¬ (nI 0) < 0, ¬ (nI 0) < 0, ¬ (nI 8) < 0, 0 + 8 ≤ 8, 0 + 8 ≤ 8, allw 34 i0]) (fun _ => rfl) rfl (al2 (by decide) (al2 (by decide) (al2 (by decide) (al2 (by decide) (al2 (by decide) (al1 rfl)))))) ?_
  replace h := wr_some h
  generalize (sC Y5 34 i1 0 34 i0 0 8) = Y6 at h ⊢
  obtain rfl := Option.some.inj h
  exact w_return k2 ⟨rfl, rfl⟩
set_option maxRecDepth 20000 in
set_option maxHeartbeats 4000000 in
/-- BallotBus$AnswerLog.copyFrom -/
theorem sn_10 (i0 : Nat) (i1 : Nat) {Y : Sm} (v : Unit) (Z : Sm) (h : fn_10 i0 i1 Y = some (v, Z)) : Mt 4 0 10 [aR 35 i0, aR 35 i1] Y (Rt none Z) nX := by
  refine Mt_of [(0, aR 35 i0), (1, aR 35 i1)] ?_
  generalize ho : (v, Z) = o at h
  have hv9 : v = o.1 := congrArg Prod.fst ho
  have hZ9 : Z = o.2 := congrArg Prod.snd ho
  clear ho
  subst hv9 hZ9
  unfold fn_10 at h
  refine w_sw k10 4 (Z := (sI Y 35 i0 1 (gI Y.1 35 i1 1))) (pc' := 8) (ls' := [(0, aR 35 i0), (1, aR 35 i1)]) (st' := []) (cs' := [allw 35 i0]) (fun _ => rfl) rfl (al1 rfl) ?_
  replace h := wr_some h
  generalize (sI Y 35 i0 1 (gI Y.1 35 i1 1)) = Y1 at h ⊢
  refine w_sw k10 4 (Z := (sI Y1 35 i0 2 (gI Y1.1 35 i1 2))) (pc' := 16) (ls' := [(0, aR 35 i0), (1, aR 35 i1)]) (st' := []) (cs' := [allw 35 i0]) (fun _ => rfl) rfl (al1 rfl) ?_
  replace h := wr_some h
  generalize (sI Y1 35 i0 2 (gI Y1.1 35 i1 2)) = Y2 at h ⊢
  refine w_sg k10 8 (pc' := 30) (ls' := [(0, aR 35 i0), (1, aR 35 i1)]) (st' := [aR 36 i0, aI (nI 0), aR 36 i0, aI (nI 0), aR 36 i1]) (cs' := []) (fun _ => rfl) al0 ?_
  refine w_sw k10 2 (Z := (sC Y2 36 i1 0 36 i0 0 360)) (pc' := 34) (ls' := [(0, aR 35 i0), (1, aR 35 i1)]) (st' := []) (cs' := [¬ (nI 0) < 0, ¬ (nI 0) < 0, ¬ (nI 360) < 0, 0 + 360 ≤ 360, 0 + 360 ≤ 360, allw 36 i0]) (fun _ => rfl) rfl (al2 (by decide) (al2 (by decide) (al2 (by decide) (al2 (by decide) (al2 (by decide) (al1 rfl)))))) ?_
  replace h := wr_some h
  generalize (sC Y2 36 i1 0 36 i0 0 360) = Y3 at h ⊢
  obtain rfl := Option.some.inj h
  exact w_return k10 ⟨rfl, rfl⟩
set_option maxRecDepth 20000 in
set_option maxHeartbeats 4000000 in
/-- BallotBus$State.copyFrom -/
theorem sn_72 (i0 : Nat) (i1 : Nat) {Y : Sm} (v : Unit) (Z : Sm) (h : fn_72 i0 i1 Y = some (v, Z)) : Mt 5 0 72 [aR 21 i0, aR 21 i1] Y (Rt none Z) nX := by
  refine Mt_of [(0, aR 21 i0), (1, aR 21 i1)] ?_
  generalize ho : (v, Z) = o at h
  have hv9 : v = o.1 := congrArg Prod.fst ho
  have hZ9 : Z = o.2 := congrArg Prod.snd ho
  clear ho
  subst hv9 hZ9
  unfold fn_72 at h
  have L121_0 : ∀ (l0 : Nat) (l1 : Nat) (n : Nat) (l2 : Int32) (Y : Sm) (e21 : (Sm) ⊕ (Unit × Sm)), lp (fun s => fn_72_L121 l0 l1 s.1 s.2) n (l2, Y) = some e21 → (∀ s9 : (Sm), e21 = .inl s9 → Wm 5 0 72 0 148 [(0, aR 21 l0), (1, aR 21 l1)] [] s9 (Rt none o.2) nX) → (∀ r, e21 = .inr r → r = o) → Wm 5 0 72 0 121 [(0, aR 21 l0), (1, aR 21 l1), (2, aI l2)] [] Y (Rt none o.2) nX := by
    intro l0 l1 n
    induction n with
    | zero => intro l2 Y e21 h; cases h
    | succ n ih20 =>
      intro l2 Y e21 h kE22 kR23
      obtain ⟨q18, h, hn19⟩ := lp_succ h
      replace h : fn_72_L121 l0 l1 l2 Y = some q18 := h
      unfold fn_72_L121 at h
      refine w_sg k72 2 (pc' := 124) (ls' := [(0, aR 21 l0), (1, aR 21 l1), (2, aI l2)]) (st' := [aI (nI 8), aI l2]) (cs' := []) (fun _ => rfl) al0 ?_
      refine w_icmp_ge k72 rfl (fun c => ?_) (fun c => ?_)
      · replace h := if_t c h
        refine w_ls [(0, aR 21 l0), (1, aR 21 l1)] (lq_c rfl (lq_c rfl lq_n)) ?_
        obtain rfl := Option.some.inj h
        obtain rfl := lpn_r hn19
        exact kE22 (Y) rfl
      · replace h := if_f c h
        obtain ⟨hc24, h⟩ := ck_some h
        refine w_sg k72 4 (pc' := 133) (ls' := [(0, aR 21 l0), (1, aR 21 l1), (2, aI l2)]) (st' := [aR 27 (8 * l1 + ix l2)]) (cs' := [vp_in l2 8]) (fun _ => rfl) (al1 (vin hc24)) ?_
        refine w_sg k72 4 (pc' := 139) (ls' := [(0, aR 21 l0), (1, aR 21 l1), (2, aI l2)]) (st' := [aR 27 (8 * l0 + ix l2), aR 27 (8 * l1 + ix l2)]) (cs' := [vp_in l2 8]) (fun _ => rfl) (al1 (vin hc24)) ?_
        obtain ⟨_, Y25, hv26, h⟩ := bd_some h
        refine w_cS0 k72 (sn_44_27_27 _ _ _ _ hv26) rfl (st := []) rfl ?_ (fun _ _ q => q.elim)
        refine w_sg k72 1 (pc' := 145) (ls' := [(0, aR 21 l0), (1, aR 21 l1), (2, aI (l2 + (nI 1)))]) (st' := []) (cs' := []) (fun _ => rfl) al0 ?_
        refine w_sg k72 1 (pc' := 121) (ls' := [(0, aR 21 l0), (1, aR 21 l1), (2, aI (l2 + (nI 1)))]) (st' := []) (cs' := []) (fun _ => rfl) al0 ?_
        refine w_ls [(0, aR 21 l0), (1, aR 21 l1), (2, aI (l2 + (nI 1)))] (lq_c rfl (lq_c rfl (lq_c rfl lq_n))) ?_
        obtain rfl := Option.some.inj h
        exact ih20 _ _ _ (lpn_l hn19) kE22 kR23
  have J148_0 : ∀ (l0 : Nat) (l1 : Nat) (Y : Sm), fn_72_J148 l0 l1 Y = some o → Wm 5 0 72 0 148 [(0, aR 21 l0), (1, aR 21 l1)] [] Y (Rt none o.2) nX := by
    intro l0 l1 Y h
    unfold fn_72_J148 at h
    refine w_sg k72 4 (pc' := 156) (ls' := [(0, aR 21 l0), (1, aR 21 l1)]) (st' := [aR 28 l1, aR 28 l0]) (cs' := []) (fun _ => rfl) al0 ?_
    obtain ⟨_, Y27, hv28, h⟩ := bd_some h
    refine w_cV0 k72 (sn_2 _ _ _ _ hv28) rfl (st := []) rfl ?_ (fun _ _ q => q.elim)
    refine w_sg k72 4 (pc' := 167) (ls' := [(0, aR 21 l0), (1, aR 21 l1)]) (st' := [aR 12 (l1 + 3), aR 12 (l0 + 3)]) (cs' := []) (fun _ => rfl) al0 ?_
    obtain ⟨_, Y29, hv30, h⟩ := bd_some h
    refine w_cV0 k72 (sn_35 _ _ _ _ hv30) rfl (st := []) rfl ?_ (fun _ _ q => q.elim)
    refine w_sg k72 4 (pc' := 178) (ls' := [(0, aR 21 l0), (1, aR 21 l1)]) (st' := [aR 35 l1, aR 35 l0]) (cs' := []) (fun _ => rfl) al0 ?_
    obtain ⟨_, Y31, hv32, h⟩ := bd_some h
    refine w_cV0 k72 (sn_10 _ _ _ _ hv32) rfl (st := []) rfl ?_ (fun _ _ q => q.elim)
    obtain rfl := Option.some.inj h
    exact w_return k72 ⟨rfl, rfl⟩
  refine w_sg k72 3 (pc' := 5) (ls' := [(0, aR 21 i0), (1, aR 21 i1)]) (st' := [aR 5 (Y.2 (i1 + 3)), aR 21 i0]) (cs' := []) (fun _ => rfl) al0 ?_
  refine w_pg3 k72 rfl ?_
  replace h := wr_some h
  generalize (sG Y (i0 + 3) (Y.2 (i1 + 3))) = Y1 at h ⊢
  refine w_sw k72 4 (Z := (sI Y1 21 i0 1 (gI Y1.1 21 i1 1))) (pc' := 16) (ls' := [(0, aR 21 i0), (1, aR 21 i1)]) (st' := []) (cs' := [allw 21 i0]) (fun _ => rfl) rfl (al1 rfl) ?_
  replace h := wr_some h
  generalize (sI Y1 21 i0 1 (gI Y1.1 21 i1 1)) = Y2 at h ⊢
  refine w_sw k72 4 (Z := (sI Y2 21 i0 2 (gI Y2.1 21 i1 2))) (pc' := 24) (ls' := [(0, aR 21 i0), (1, aR 21 i1)]) (st' := []) (cs' := [allw 21 i0]) (fun _ => rfl) rfl (al1 rfl) ?_
  replace h := wr_some h
  generalize (sI Y2 21 i0 2 (gI Y2.1 21 i1 2)) = Y3 at h ⊢
  refine w_sw k72 4 (Z := (sI Y3 21 i0 3 (gI Y3.1 21 i1 3))) (pc' := 32) (ls' := [(0, aR 21 i0), (1, aR 21 i1)]) (st' := []) (cs' := [allw 21 i0]) (fun _ => rfl) rfl (al1 rfl) ?_
  replace h := wr_some h
  generalize (sI Y3 21 i0 3 (gI Y3.1 21 i1 3)) = Y4 at h ⊢
  obtain ⟨hc5, h⟩ := ck_some h
  refine w_sw k72 4 (Z := (sI Y4 21 i0 4 (gI Y4.1 21 i1 4))) (pc' := 40) (ls' := [(0, aR 21 i0), (1, aR 21 i1)]) (st' := []) (cs' := [allw 21 i0, (gI Y4.1 21 i1 4) = 0 ∨ (gI Y4.1 21 i1 4) = 1]) (fun _ => rfl) rfl (al2 rfl (al1 (bz_or hc5))) ?_
  replace h := wr_some h
  generalize (sI Y4 21 i0 4 (gI Y4.1 21 i1 4)) = Y6 at h ⊢
  refine w_sw k72 4 (Z := (sI Y6 21 i0 5 (gI Y6.1 21 i1 5))) (pc' := 48) (ls' := [(0, aR 21 i0), (1, aR 21 i1)]) (st' := []) (cs' := [allw 21 i0]) (fun _ => rfl) rfl (al1 rfl) ?_
  replace h := wr_some h
  generalize (sI Y6 21 i0 5 (gI Y6.1 21 i1 5)) = Y7 at h ⊢
  refine w_sw k72 4 (Z := (sI Y7 21 i0 6 (gI Y7.1 21 i1 6))) (pc' := 56) (ls' := [(0, aR 21 i0), (1, aR 21 i1)]) (st' := []) (cs' := [allw 21 i0]) (fun _ => rfl) rfl (al1 rfl) ?_
  replace h := wr_some h
  generalize (sI Y7 21 i0 6 (gI Y7.1 21 i1 6)) = Y8 at h ⊢
  refine w_sw k72 4 (Z := (sI Y8 21 i0 7 (gI Y8.1 21 i1 7))) (pc' := 64) (ls' := [(0, aR 21 i0), (1, aR 21 i1)]) (st' := []) (cs' := [allw 21 i0]) (fun _ => rfl) rfl (al1 rfl) ?_
  replace h := wr_some h
  generalize (sI Y8 21 i0 7 (gI Y8.1 21 i1 7)) = Y9 at h ⊢
  refine w_sw k72 4 (Z := (sI Y9 21 i0 8 (gI Y9.1 21 i1 8))) (pc' := 72) (ls' := [(0, aR 21 i0), (1, aR 21 i1)]) (st' := []) (cs' := [allw 21 i0]) (fun _ => rfl) rfl (al1 rfl) ?_
  replace h := wr_some h
  generalize (sI Y9 21 i0 8 (gI Y9.1 21 i1 8)) = Y10 at h ⊢
  refine w_sg k72 4 (pc' := 80) (ls' := [(0, aR 21 i0), (1, aR 21 i1)]) (st' := [aR 22 i0, aR 22 i1]) (cs' := []) (fun _ => rfl) al0 ?_
  obtain ⟨_, Y11, hv12, h⟩ := bd_some h
  refine w_cS0 k72 (sn_44_22_22 _ _ _ _ hv12) rfl (st := []) rfl ?_ (fun _ _ q => q.elim)
  refine w_sg k72 4 (pc' := 91) (ls' := [(0, aR 21 i0), (1, aR 21 i1)]) (st' := [aR 23 i0, aR 23 i1]) (cs' := []) (fun _ => rfl) al0 ?_
  obtain ⟨_, Y13, hv14, h⟩ := bd_some h
  refine w_cS0 k72 (sn_44_23_23 _ _ _ _ hv14) rfl (st := []) rfl ?_ (fun _ _ q => q.elim)
  refine w_sg k72 4 (pc' := 102) (ls' := [(0, aR 21 i0), (1, aR 21 i1)]) (st' := [aR 24 i0, aR 24 i1]) (cs' := []) (fun _ => rfl) al0 ?_
  obtain ⟨_, Y15, hv16, h⟩ := bd_some h
  refine w_cS0 k72 (sn_44_24_24 _ _ _ _ hv16) rfl (st := []) rfl ?_ (fun _ _ q => q.elim)
  refine w_sw k72 8 (Z := (sD2 Y15 25 i1 0 25 i0 0 5)) (pc' := 119) (ls' := [(0, aR 21 i0), (1, aR 21 i1)]) (st' := []) (cs' := [¬ (nI 0) < 0, ¬ (nI 0) < 0, ¬ (nI 5) < 0, 0 + 5 ≤ 5, 0 + 5 ≤ 5, allw 25 i0]) (fun _ => rfl) rfl (al2 (by decide) (al2 (by decide) (al2 (by decide) (al2 (by decide) (al2 (by decide) (al1 rfl)))))) ?_
  replace h := wr_some h
  generalize (sD2 Y15 25 i1 0 25 i0 0 5) = Y17 at h ⊢
  refine w_sg k72 2 (pc' := 121) (ls' := [(0, aR 21 i0), (1, aR 21 i1), (2, aI (nI 0))]) (st' := []) (cs' := []) (fun _ => rfl) al0 ?_
  obtain ⟨e35, hl33, hx34⟩ := exd_some h
  refine w_ls [(0, aR 21 i0), (1, aR 21 i1), (2, aI (nI 0))] (lq_c rfl (lq_c rfl (lq_c rfl lq_n))) ?_
  refine L121_0 _ _ _ _ _ e35 hl33 (fun s9 hs9 => ?_) (fun r9 hr9 => ?_)
  · subst hs9
    replace h : fn_72_J148 i0 i1 s9 = some o := hx34
    refine w_ls [(0, aR 21 i0), (1, aR 21 i1)] (lq_c rfl (lq_c rfl lq_n)) ?_
    exact J148_0 _ _ _ h
  · subst hr9
    exact hx34
set_option maxRecDepth 20000 in
set_option maxHeartbeats 4000000 in
/-- BallotBus$History.push -/
theorem sn_14 (i1 : Nat) {Y : Sm} (v : Unit) (Z : Sm) (h : fn_14 i1 Y = some (v, Z)) : Mt 6 0 14 [aR 37 0, aR 21 i1] Y (Rt none Z) nX := by
  refine Mt_of [(0, aR 37 0), (1, aR 21 i1)] ?_
  generalize ho : (v, Z) = o at h
  have hv9 : v = o.1 := congrArg Prod.fst ho
  have hZ9 : Z = o.2 := congrArg Prod.snd ho
  clear ho
  subst hv9 hZ9
  unfold fn_14 at h
  have J22_0 : ∀ (l1 : Nat) (t0 : Int32) (Y : Sm), fn_14_J22 l1 t0 Y = some o → Wm 6 0 14 0 22 [(0, aR 37 0), (1, aR 21 l1)] [aI t0, aR 37 0] Y (Rt none o.2) nX := by
    intro l1 t0 Y h
    unfold fn_14_J22 at h
    refine w_sw k14 1 (Z := (sI Y 37 0 1 t0)) (pc' := 25) (ls' := [(0, aR 37 0), (1, aR 21 l1)]) (st' := []) (cs' := [allw 37 0]) (fun _ => rfl) rfl (al1 rfl) ?_
    replace h := wr_some h
    generalize (sI Y 37 0 1 t0) = Y1 at h ⊢
    obtain ⟨hc2, h⟩ := ck_some h
    refine w_sg k14 5 (pc' := 34) (ls' := [(0, aR 37 0), (1, aR 21 l1)]) (st' := [aR 21 ((ix (gI Y1.1 37 0 1)) + 3)]) (cs' := [vp_in (gI Y1.1 37 0 1) 8]) (fun _ => rfl) (al1 (vin hc2)) ?_
    refine w_sg k14 1 (pc' := 35) (ls' := [(0, aR 37 0), (1, aR 21 l1)]) (st' := [aR 21 l1, aR 21 ((ix (gI Y1.1 37 0 1)) + 3)]) (cs' := []) (fun _ => rfl) al0 ?_
    obtain ⟨_, Y3, hv4, h⟩ := bd_some h
    refine w_cV0 k14 (sn_72 _ _ _ _ hv4) rfl (st := []) rfl ?_ (fun _ _ q => q.elim)
    refine w_sw k14 8 (Z := (sI Y3 37 0 2 (if (nI 8) < ((gI Y3.1 37 0 2) + (nI 1)) then (nI 8) else ((gI Y3.1 37 0 2) + (nI 1))))) (pc' := 53) (ls' := [(0, aR 37 0), (1, aR 21 l1)]) (st' := []) (cs' := [allw 37 0]) (fun _ => rfl) rfl (al1 rfl) ?_
    replace h := wr_some h
    generalize (sI Y3 37 0 2 (if (nI 8) < ((gI Y3.1 37 0 2) + (nI 1)) then (nI 8) else ((gI Y3.1 37 0 2) + (nI 1)))) = Y5 at h ⊢
    obtain rfl := Option.some.inj h
    exact w_return k14 ⟨rfl, rfl⟩
  refine w_sg k14 6 (pc' := 9) (ls' := [(0, aR 37 0), (1, aR 21 i1)]) (st' := [aI (nI 8), aI ((gI Y.1 37 0 1) + (nI 1)), aR 37 0]) (cs' := []) (fun _ => rfl) al0 ?_
  refine w_icmp_ge k14 rfl (fun c => ?_) (fun c => ?_)
  · replace h := if_t c h
    refine w_sg k14 1 (pc' := 22) (ls' := [(0, aR 37 0), (1, aR 21 i1)]) (st' := [aI (nI 0), aR 37 0]) (cs' := []) (fun _ => rfl) al0 ?_
    refine w_ls [(0, aR 37 0), (1, aR 21 i1)] (lq_c rfl (lq_c rfl lq_n)) ?_
    exact J22_0 _ _ _ h
  · replace h := if_f c h
    refine w_sg k14 5 (pc' := 22) (ls' := [(0, aR 37 0), (1, aR 21 i1)]) (st' := [aI ((gI Y.1 37 0 1) + (nI 1)), aR 37 0]) (cs' := []) (fun _ => rfl) al0 ?_
    refine w_ls [(0, aR 37 0), (1, aR 21 i1)] (lq_c rfl (lq_c rfl lq_n)) ?_
    exact J22_0 _ _ _ h
set_option maxRecDepth 20000 in
set_option maxHeartbeats 4000000 in
/-- BallotBus$State.isMultipleOf -/
theorem sn_87 (i0 : Nat) (a1 : Int32) {Y : Sm} (v : Int32) (Z : Sm) (h : fn_87 i0 a1 Y = some (v, Z)) : Mt 4 0 87 [aR 21 i0, aI a1] Y (Rt (some (aI v)) Z) nX := by
  refine Mt_of [(0, aR 21 i0), (1, aI a1)] ?_
  generalize ho : (v, Z) = o at h
  have hv9 : v = o.1 := congrArg Prod.fst ho
  have hZ9 : Z = o.2 := congrArg Prod.snd ho
  clear ho
  subst hv9 hZ9
  unfold fn_87 at h
  refine w_sg k87 1 (pc' := 1) (ls' := [(0, aR 21 i0), (1, aI a1)]) (st' := [aI a1]) (cs' := []) (fun _ => rfl) al0 ?_
  refine w_if_le k87 rfl (fun c => ?_) (fun c => ?_)
  · replace h := if_t c h
    refine w_sg k87 1 (pc' := 18) (ls' := [(0, aR 21 i0), (1, aI a1)]) (st' := [aI (nI 0)]) (cs' := []) (fun _ => rfl) al0 ?_
    obtain rfl := Option.some.inj h
    exact w_zreturn k87 (Or.inl rfl) ⟨rfl, rfl⟩
  · replace h := if_f c h
    obtain ⟨hc1, h⟩ := ck_some h
    refine w_sg k87 4 (pc' := 10) (ls' := [(0, aR 21 i0), (1, aI a1)]) (st' := [aI ((gI Y.1 21 i0 1) - (gI Y.1 21 i0 1) / a1 * a1)]) (cs' := [¬ a1 = 0]) (fun _ => rfl) (al1 (nz_of hc1)) ?_
    refine w_if_ne k87 rfl (fun c => ?_) (fun c => ?_)
    · replace h := if_f c h
      refine w_sg k87 1 (pc' := 18) (ls' := [(0, aR 21 i0), (1, aI a1)]) (st' := [aI (nI 0)]) (cs' := []) (fun _ => rfl) al0 ?_
      obtain rfl := Option.some.inj h
      exact w_zreturn k87 (Or.inl rfl) ⟨rfl, rfl⟩
    · replace h := if_t c h
      refine w_sg k87 2 (pc' := 18) (ls' := [(0, aR 21 i0), (1, aI a1)]) (st' := [aI (nI 1)]) (cs' := []) (fun _ => rfl) al0 ?_
      obtain rfl := Option.some.inj h
      exact w_zreturn k87 (Or.inr rfl) ⟨rfl, rfl⟩
set_option maxRecDepth 20000 in
set_option maxHeartbeats 4000000 in
/-- BallotBus$Accounts.book -/
theorem sn_7 (i0 : Nat) (a1 : Int32) (a2 : Int32) {Y : Sm} (v : Int32) (Z : Sm) (h : fn_7 i0 a1 a2 Y = some (v, Z)) : Mt 4 0 7 [aR 28 i0, aI a1, aI a2] Y (Rt (some (aI v)) Z) nX := by
  refine Mt_of [(0, aR 28 i0), (1, aI a1), (2, aI a2)] ?_
  generalize ho : (v, Z) = o at h
  have hv9 : v = o.1 := congrArg Prod.fst ho
  have hZ9 : Z = o.2 := congrArg Prod.snd ho
  clear ho
  subst hv9 hZ9
  unfold fn_7 at h
  obtain ⟨hc1, h⟩ := ck_some h
  refine w_sg k7 7 (pc' := 11) (ls' := [(0, aR 28 i0), (1, aI a1), (2, aI a2), (3, aI (if (gI Y.1 30 i0 (ix a1)) < a2 then (gI Y.1 30 i0 (ix a1)) else a2))]) (st' := []) (cs' := [vp_in a1 8]) (fun _ => rfl) (al1 (vin hc1)) ?_
  refine w_sw k7 8 (Z := (sI Y 30 i0 (ix a1) ((gI Y.1 30 i0 (ix a1)) - (if (gI Y.1 30 i0 (ix a1)) < a2 then (gI Y.1 30 i0 (ix a1)) else a2)))) (pc' := 21) (ls' := [(0, aR 28 i0), (1, aI a1), (2, aI a2), (3, aI (if (gI Y.1 30 i0 (ix a1)) < a2 then (gI Y.1 30 i0 (ix a1)) else a2))]) (st' := []) (cs' := [vp_in a1 8, vp_in a1 8, allw 30 i0]) (fun _ => rfl) rfl (al2 (vin hc1) (al2 (vin hc1) (al1 rfl))) ?_
  replace h := wr_some h
  generalize (sI Y 30 i0 (ix a1) ((gI Y.1 30 i0 (ix a1)) - (if (gI Y.1 30 i0 (ix a1)) < a2 then (gI Y.1 30 i0 (ix a1)) else a2))) = Y2 at h ⊢
  refine w_sg k7 8 (pc' := 35) (ls' := [(0, aR 28 i0), (1, aI a1), (2, aI a2), (3, aI (if (gI Y.1 30 i0 (ix a1)) < a2 then (gI Y.1 30 i0 (ix a1)) else a2))]) (st' := [aI (gI Y2.1 29 i0 (ix a1)), aI (nI 999), aI a1, aR 29 i0]) (cs' := [vp_in a1 8]) (fun _ => rfl) (al1 (vin hc1)) ?_
  refine w_sw k7 6 (Z := (sI Y2 29 i0 (ix a1) (if (((gI Y2.1 29 i0 (ix a1)) + a2) - (if (gI Y.1 30 i0 (ix a1)) < a2 then (gI Y.1 30 i0 (ix a1)) else a2)) < (nI 999) then (((gI Y2.1 29 i0 (ix a1)) + a2) - (if (gI Y.1 30 i0 (ix a1)) < a2 then (gI Y.1 30 i0 (ix a1)) else a2)) else (nI 999)))) (pc' := 43) (ls' := [(0, aR 28 i0), (1, aI a1), (2, aI a2), (3, aI (if (gI Y.1 30 i0 (ix a1)) < a2 then (gI Y.1 30 i0 (ix a1)) else a2))]) (st' := []) (cs' := [vp_in a1 8, allw 29 i0]) (fun _ => rfl) rfl (al2 (vin hc1) (al1 rfl)) ?_
  replace h := wr_some h
  generalize (sI Y2 29 i0 (ix a1) (if (((gI Y2.1 29 i0 (ix a1)) + a2) - (if (gI Y.1 30 i0 (ix a1)) < a2 then (gI Y.1 30 i0 (ix a1)) else a2)) < (nI 999) then (((gI Y2.1 29 i0 (ix a1)) + a2) - (if (gI Y.1 30 i0 (ix a1)) < a2 then (gI Y.1 30 i0 (ix a1)) else a2)) else (nI 999))) = Y3 at h ⊢
  refine w_sw k7 8 (Z := (sI Y3 32 i0 (ix a1) ((gI Y3.1 32 i0 (ix a1)) + (nI 1)))) (pc' := 53) (ls' := [(0, aR 28 i0), (1, aI a1), (2, aI a2), (3, aI (if (gI Y.1 30 i0 (ix a1)) < a2 then (gI Y.1 30 i0 (ix a1)) else a2))]) (st' := []) (cs' := [vp_in a1 8, vp_in a1 8, allw 32 i0]) (fun _ => rfl) rfl (al2 (vin hc1) (al2 (vin hc1) (al1 rfl))) ?_
  replace h := wr_some h
  generalize (sI Y3 32 i0 (ix a1) ((gI Y3.1 32 i0 (ix a1)) + (nI 1))) = Y4 at h ⊢
  refine w_sw k7 8 (Z := (sI Y4 33 i0 (ix a1) ((gI Y4.1 33 i0 (ix a1)) + a2))) (pc' := 63) (ls' := [(0, aR 28 i0), (1, aI a1), (2, aI a2), (3, aI (if (gI Y.1 30 i0 (ix a1)) < a2 then (gI Y.1 30 i0 (ix a1)) else a2))]) (st' := []) (cs' := [vp_in a1 8, vp_in a1 8, allw 33 i0]) (fun _ => rfl) rfl (al2 (vin hc1) (al2 (vin hc1) (al1 rfl))) ?_
  replace h := wr_some h
  generalize (sI Y4 33 i0 (ix a1) ((gI Y4.1 33 i0 (ix a1)) + a2)) = Y5 at h ⊢
  refine w_sg k7 1 (pc' := 64) (ls' := [(0, aR 28 i0), (1, aI a1), (2, aI a2), (3, aI (if (gI Y.1 30 i0 (ix a1)) < a2 then (gI Y.1 30 i0 (ix a1)) else a2))]) (st' := [aI (if (gI Y.1 30 i0 (ix a1)) < a2 then (gI Y.1 30 i0 (ix a1)) else a2)]) (cs' := []) (fun _ => rfl) al0 ?_
  obtain rfl := Option.some.inj h
  exact w_ireturn k7 ⟨rfl, rfl⟩
set_option maxRecDepth 20000 in
set_option maxHeartbeats 4000000 in
/-- BallotBus$AnswerLog.add -/
theorem sn_11 (i0 : Nat) (i1 : Nat) (a2 : Int32) (a3 : Int32) (a4 : Int32) {Y : Sm} (v : Unit) (Z : Sm) (h : fn_11 i0 i1 a2 a3 a4 Y = some (v, Z)) : Mt 4 0 11 [aR 35 i0, aR 12 i1, aI a2, aI a3, aI a4] Y (Rt none Z) nX := by
  refine Mt_of [(0, aR 35 i0), (1, aR 12 i1), (2, aI a2), (3, aI a3), (4, aI a4)] ?_
  generalize ho : (v, Z) = o at h
  have hv9 : v = o.1 := congrArg Prod.fst ho
  have hZ9 : Z = o.2 := congrArg Prod.snd ho
  clear ho
  subst hv9 hZ9
  unfold fn_11 at h
  refine w_sg k11 5 (pc' := 9) (ls' := [(0, aR 35 i0), (1, aR 12 i1), (2, aI a2), (3, aI a3), (4, aI a4), (5, aI ((gI Y.1 35 i0 1) * (nI 6)))]) (st' := []) (cs' := []) (fun _ => rfl) al0 ?_
  refine w_sg k11 7 (pc' := 21) (ls' := [(0, aR 35 i0), (1, aR 12 i1), (2, aI a2), (3, aI a3), (4, aI a4), (5, aI ((gI Y.1 35 i0 1) * (nI 6)))]) (st' := [aR 19 i1, aI ((gI Y.1 35 i0 1) * (nI 6)), aR 36 i0]) (cs' := [vp_in (nI 5) 6]) (fun _ => rfl) (al1 (vin rfl)) ?_
  obtain ⟨hc1, h⟩ := ck_some h
  obtain ⟨hc2, h⟩ := ck_some h
  refine w_sw k11 3 (Z := (sI Y 36 i0 (ix ((gI Y.1 35 i0 1) * (nI 6))) (gI Y.1 19 i1 (ix a2)))) (pc' := 24) (ls' := [(0, aR 35 i0), (1, aR 12 i1), (2, aI a2), (3, aI a3), (4, aI a4), (5, aI ((gI Y.1 35 i0 1) * (nI 6)))]) (st' := []) (cs' := [vp_in a2 40, vp_in ((gI Y.1 35 i0 1) * (nI 6)) 360, allw 36 i0]) (fun _ => rfl) rfl (al2 (vin hc1) (al2 (vin hc2) (al1 rfl))) ?_
  replace h := wr_some h
  generalize (sI Y 36 i0 (ix ((gI Y.1 35 i0 1) * (nI 6))) (gI Y.1 19 i1 (ix a2))) = Y3 at h ⊢
  refine w_sg k11 8 (pc' := 37) (ls' := [(0, aR 35 i0), (1, aR 12 i1), (2, aI a2), (3, aI a3), (4, aI a4), (5, aI ((gI Y.1 35 i0 1) * (nI 6)))]) (st' := [aI (nI 0), aR 13 i1, aI (((gI Y.1 35 i0 1) * (nI 6)) + (nI 1)), aR 36 i0]) (cs' := []) (fun _ => rfl) al0 ?_
  refine w_sg k11 1 (pc' := 38) (ls' := [(0, aR 35 i0), (1, aR 12 i1), (2, aI a2), (3, aI a3), (4, aI a4), (5, aI ((gI Y.1 35 i0 1) * (nI 6)))]) (st' := [aR 14 i1, aI (((gI Y.1 35 i0 1) * (nI 6)) + (nI 1)), aR 36 i0]) (cs' := [vp_in (nI 0) 6]) (fun _ => rfl) (al1 (vin rfl)) ?_
  obtain ⟨hc4, h⟩ := ck_some h
  refine w_sw k11 3 (Z := (sI Y3 36 i0 (ix (((gI Y.1 35 i0 1) * (nI 6)) + (nI 1))) (gI Y3.1 14 i1 (ix a2)))) (pc' := 41) (ls' := [(0, aR 35 i0), (1, aR 12 i1), (2, aI a2), (3, aI a3), (4, aI a4), (5, aI ((gI Y.1 35 i0 1) * (nI 6)))]) (st' := []) (cs' := [vp_in a2 40, vp_in (((gI Y.1 35 i0 1) * (nI 6)) + (nI 1)) 360, allw 36 i0]) (fun _ => rfl) rfl (al2 (vin hc1) (al2 (vin hc4) (al1 rfl))) ?_
  replace h := wr_some h
  generalize (sI Y3 36 i0 (ix (((gI Y.1 35 i0 1) * (nI 6)) + (nI 1))) (gI Y3.1 14 i1 (ix a2))) = Y5 at h ⊢
  refine w_sg k11 8 (pc' := 54) (ls' := [(0, aR 35 i0), (1, aR 12 i1), (2, aI a2), (3, aI a3), (4, aI a4), (5, aI ((gI Y.1 35 i0 1) * (nI 6)))]) (st' := [aI (nI 1), aR 13 i1, aI (((gI Y.1 35 i0 1) * (nI 6)) + (nI 2)), aR 36 i0]) (cs' := []) (fun _ => rfl) al0 ?_
  refine w_sg k11 1 (pc' := 55) (ls' := [(0, aR 35 i0), (1, aR 12 i1), (2, aI a2), (3, aI a3), (4, aI a4), (5, aI ((gI Y.1 35 i0 1) * (nI 6)))]) (st' := [aR 15 i1, aI (((gI Y.1 35 i0 1) * (nI 6)) + (nI 2)), aR 36 i0]) (cs' := [vp_in (nI 1) 6]) (fun _ => rfl) (al1 (vin rfl)) ?_
  obtain ⟨hc6, h⟩ := ck_some h
  refine w_sw k11 3 (Z := (sI Y5 36 i0 (ix (((gI Y.1 35 i0 1) * (nI 6)) + (nI 2))) (gI Y5.1 15 i1 (ix a2)))) (pc' := 58) (ls' := [(0, aR 35 i0), (1, aR 12 i1), (2, aI a2), (3, aI a3), (4, aI a4), (5, aI ((gI Y.1 35 i0 1) * (nI 6)))]) (st' := []) (cs' := [vp_in a2 40, vp_in (((gI Y.1 35 i0 1) * (nI 6)) + (nI 2)) 360, allw 36 i0]) (fun _ => rfl) rfl (al2 (vin hc1) (al2 (vin hc6) (al1 rfl))) ?_
  replace h := wr_some h
  generalize (sI Y5 36 i0 (ix (((gI Y.1 35 i0 1) * (nI 6)) + (nI 2))) (gI Y5.1 15 i1 (ix a2))) = Y7 at h ⊢
  refine w_sg k11 8 (pc' := 71) (ls' := [(0, aR 35 i0), (1, aR 12 i1), (2, aI a2), (3, aI a3), (4, aI a4), (5, aI ((gI Y.1 35 i0 1) * (nI 6)))]) (st' := [aI (nI 4), aR 13 i1, aI (((gI Y.1 35 i0 1) * (nI 6)) + (nI 3)), aR 36 i0]) (cs' := []) (fun _ => rfl) al0 ?_
  refine w_sg k11 1 (pc' := 72) (ls' := [(0, aR 35 i0), (1, aR 12 i1), (2, aI a2), (3, aI a3), (4, aI a4), (5, aI ((gI Y.1 35 i0 1) * (nI 6)))]) (st' := [aR 18 i1, aI (((gI Y.1 35 i0 1) * (nI 6)) + (nI 3)), aR 36 i0]) (cs' := [vp_in (nI 4) 6]) (fun _ => rfl) (al1 (vin rfl)) ?_
  obtain ⟨hc8, h⟩ := ck_some h
  refine w_sw k11 3 (Z := (sI Y7 36 i0 (ix (((gI Y.1 35 i0 1) * (nI 6)) + (nI 3))) (gI Y7.1 18 i1 (ix a2)))) (pc' := 75) (ls' := [(0, aR 35 i0), (1, aR 12 i1), (2, aI a2), (3, aI a3), (4, aI a4), (5, aI ((gI Y.1 35 i0 1) * (nI 6)))]) (st' := []) (cs' := [vp_in a2 40, vp_in (((gI Y.1 35 i0 1) * (nI 6)) + (nI 3)) 360, allw 36 i0]) (fun _ => rfl) rfl (al2 (vin hc1) (al2 (vin hc8) (al1 rfl))) ?_
  replace h := wr_some h
  generalize (sI Y7 36 i0 (ix (((gI Y.1 35 i0 1) * (nI 6)) + (nI 3))) (gI Y7.1 18 i1 (ix a2))) = Y9 at h ⊢
  obtain ⟨hc10, h⟩ := ck_some h
  refine w_sw k11 7 (Z := (sI Y9 36 i0 (ix (((gI Y.1 35 i0 1) * (nI 6)) + (nI 4))) a3)) (pc' := 85) (ls' := [(0, aR 35 i0), (1, aR 12 i1), (2, aI a2), (3, aI a3), (4, aI a4), (5, aI ((gI Y.1 35 i0 1) * (nI 6)))]) (st' := []) (cs' := [vp_in (((gI Y.1 35 i0 1) * (nI 6)) + (nI 4)) 360, allw 36 i0]) (fun _ => rfl) rfl (al2 (vin hc10) (al1 rfl)) ?_
  replace h := wr_some h
  generalize (sI Y9 36 i0 (ix (((gI Y.1 35 i0 1) * (nI 6)) + (nI 4))) a3) = Y11 at h ⊢
  obtain ⟨hc12, h⟩ := ck_some h
  refine w_sw k11 7 (Z := (sI Y11 36 i0 (ix (((gI Y.1 35 i0 1) * (nI 6)) + (nI 5))) a4)) (pc' := 96) (ls' := [(0, aR 35 i0), (1, aR 12 i1), (2, aI a2), (3, aI a3), (4, aI a4), (5, aI ((gI Y.1 35 i0 1) * (nI 6)))]) (st' := []) (cs' := [vp_in (((gI Y.1 35 i0 1) * (nI 6)) + (nI 5)) 360, allw 36 i0]) (fun _ => rfl) rfl (al2 (vin hc12) (al1 rfl)) ?_
  replace h := wr_some h
  generalize (sI Y11 36 i0 (ix (((gI Y.1 35 i0 1) * (nI 6)) + (nI 5))) a4) = Y13 at h ⊢
  refine w_sw k11 8 (Z := (sI Y13 35 i0 1 (((gI Y13.1 35 i0 1) + (nI 1)) - ((gI Y13.1 35 i0 1) + (nI 1)) / (nI 60) * (nI 60)))) (pc' := 109) (ls' := [(0, aR 35 i0), (1, aR 12 i1), (2, aI a2), (3, aI a3), (4, aI a4), (5, aI ((gI Y.1 35 i0 1) * (nI 6)))]) (st' := []) (cs' := [¬ (nI 60) = 0, allw 35 i0]) (fun _ => rfl) rfl (al2 (by decide) (al1 rfl)) ?_
  replace h := wr_some h
  generalize (sI Y13 35 i0 1 (((gI Y13.1 35 i0 1) + (nI 1)) - ((gI Y13.1 35 i0 1) + (nI 1)) / (nI 60) * (nI 60))) = Y14 at h ⊢
  refine w_sw k11 8 (Z := (sI Y14 35 i0 2 (if (nI 60) < ((gI Y14.1 35 i0 2) + (nI 1)) then (nI 60) else ((gI Y14.1 35 i0 2) + (nI 1))))) (pc' := 124) (ls' := [(0, aR 35 i0), (1, aR 12 i1), (2, aI a2), (3, aI a3), (4, aI a4), (5, aI ((gI Y.1 35 i0 1) * (nI 6)))]) (st' := []) (cs' := [allw 35 i0]) (fun _ => rfl) rfl (al1 rfl) ?_
  replace h := wr_some h
  generalize (sI Y14 35 i0 2 (if (nI 60) < ((gI Y14.1 35 i0 2) + (nI 1)) then (nI 60) else ((gI Y14.1 35 i0 2) + (nI 1)))) = Y15 at h ⊢
  obtain rfl := Option.some.inj h
  exact w_return k11 ⟨rfl, rfl⟩
