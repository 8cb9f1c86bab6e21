/-! the code of the methods does what their functions say (printed by wip/whole/gen20.py) -/
set_option maxRecDepth 20000 in
set_option maxHeartbeats 4000000 in
/-- BallotBus.answeredIn -/
theorem sn_143 (a1 : Int32) (a2 : Int32) {Y : Sm} (v : (Int32 ⊕ Nat)) (Z : Sm) (h : fn_143 a1 a2 Y = some (v, Z)) : Mt 9 2 143 [aR 0 0, aI a1, aI a2] Y (Pz (fun v => some (aI v)) v Z) (Ez v Z) := by
  refine Mt_of [(0, aR 0 0), (1, aI a1), (2, aI a2)] ?_
  generalize ho : (v, Z) = o at h
  have hv9 : v = o.1 := congrArg Prod.fst ho
  have hZ9 : Z = o.2 := congrArg Prod.snd ho
  clear ho
  subst hv9 hZ9
  unfold fn_143 at h
  have L27_2 : ∀ (l1 : Int32) (l2 : Int32) (n : Nat) (l3 : Int32) (Y : Sm), lp (fun s => fn_143_L27_2 l1 l2 s.1 s.2) n (l3, Y) = some o → Wm 9 2 143 2 27 [(0, aR 0 0), (1, aI l1), (2, aI l2), (3, aI l3)] [] Y (Pz (fun v => some (aI v)) o.1 o.2) (Ez o.1 o.2) := by
    intro l1 l2 n
    induction n with
    | zero => intro l3 Y h; cases h
    | succ n ih10 =>
      intro l3 Y h
      obtain ⟨q8, h, hn9⟩ := lp_succ h
      replace h : fn_143_L27_2 l1 l2 l3 Y = some q8 := h
      unfold fn_143_L27_2 at h
      refine w_sg k143 2 (pc' := 29) (ls' := [(0, aR 0 0), (1, aI l1), (2, aI l2), (3, aI l3)]) (st' := [aI l2, aI l3]) (cs' := []) (fun _ => rfl) al0 ?_
      refine w_icmp_gt k143 rfl (fun c => ?_) (fun c => ?_)
      · replace h := if_t c h
        refine w_sg k143 1 (pc' := 67) (ls' := [(0, aR 0 0), (1, aI l1), (2, aI l2), (3, aI l3)]) (st' := [aI (-1 : Int32)]) (cs' := []) (fun _ => rfl) al0 ?_
        obtain rfl := Option.some.inj h
        obtain rfl := lpn_r hn9
        exact w_ireturn k143 Pz_l
      · replace h := if_f c h
        refine w_sg k143 4 (pc' := 40) (ls' := [(0, aR 0 0), (1, aI l1), (2, aI l2), (3, aI l3)]) (st' := [aR 39 0, aR 21 1]) (cs' := []) (fun _ => rfl) al0 ?_
        obtain ⟨_, Y11, hv12, h⟩ := bd_some h
        refine w_cV0 k143 (sn_86 _ _ _ hv12) rfl (st := []) rfl ?_ (fun _ _ q => q.elim)
        refine w_sg k143 4 (pc' := 51) (ls' := [(0, aR 0 0), (1, aI l1), (2, aI l2), (3, aI l3)]) (st' := [aI l1, aR 12 4]) (cs' := []) (fun _ => rfl) al0 ?_
        obtain ⟨v15, Y13, hv14, h⟩ := bd_some h
        refine w_cV1 k143 (sn_38 _ _ _ _ hv14) rfl (st := []) rfl ?_ (fun _ _ q => q.elim)
        refine w_sg k143 1 (pc' := 55) (ls' := [(0, aR 0 0), (1, aI l1), (2, aI l2), (3, aI l3)]) (st' := [aI (-1 : Int32), aI v15]) (cs' := []) (fun _ => rfl) al0 ?_
        refine w_icmp_ne k143 rfl (fun c => ?_) (fun c => ?_)
        · replace h := if_f c h
          refine w_sg k143 1 (pc' := 63) (ls' := [(0, aR 0 0), (1, aI l1), (2, aI l2), (3, aI (l3 + (nI 1)))]) (st' := []) (cs' := []) (fun _ => rfl) al0 ?_
          refine w_sg k143 1 (pc' := 27) (ls' := [(0, aR 0 0), (1, aI l1), (2, aI l2), (3, aI (l3 + (nI 1)))]) (st' := []) (cs' := []) (fun _ => rfl) al0 ?_
          refine w_ls [(0, aR 0 0), (1, aI l1), (2, aI l2), (3, aI (l3 + (nI 1)))] (lq_c rfl (lq_c rfl (lq_c rfl (lq_c rfl lq_n)))) ?_
          obtain rfl := Option.some.inj h
          exact ih10 _ _ (lpn_l hn9)
        · replace h := if_t c h
          refine w_sg k143 1 (pc' := 59) (ls' := [(0, aR 0 0), (1, aI l1), (2, aI l2), (3, aI l3)]) (st' := [aI l3]) (cs' := []) (fun _ => rfl) al0 ?_
          obtain rfl := Option.some.inj h
          obtain rfl := lpn_r hn9
          exact w_ireturn k143 Pz_l
  refine w_sg k143 3 (pc' := 5) (ls' := [(0, aR 0 0), (1, aI a1), (2, aI a2)]) (st' := [aI (nI 500), aI a2, aR 0 0]) (cs' := []) (fun _ => rfl) al0 ?_
  obtain ⟨o20, Y1, hv2, ⟨_, ho21, h⟩ | ⟨x19, ho21, h⟩⟩ := bx_some h
  · subst ho21
    refine w_cV0 k143 (sn_157 _ _ _ _ hv2) rfl (st := []) rfl ?_ (fun _ _ q => q.elim)
    refine w_sg k143 2 (pc' := 10) (ls' := [(0, aR 0 0), (1, aI a1), (2, aI a2)]) (st' := [aI a1, aR 0 0]) (cs' := []) (fun _ => rfl) al0 ?_
    obtain ⟨o17, Y3, hv4, ⟨v5, ho18, h⟩ | ⟨x16, ho18, h⟩⟩ := bx_some h
    · subst ho18
      refine w_cV1 k143 (sn_158 _ _ _ hv4) rfl (st := []) rfl ?_ (fun _ _ q => q.elim)
      refine w_sg k143 5 (pc' := 22) (ls' := [(0, aR 0 0), (1, aI a1), (2, aI a2)]) (st' := [aR 21 0, aR 21 1]) (cs' := []) (fun _ => rfl) al0 ?_
      obtain ⟨_, Y6, hv7, h⟩ := bd_some h
      refine w_cV0 k143 (sn_72 _ _ _ _ hv7) rfl (st := []) rfl ?_ (fun _ _ q => q.elim)
      refine w_sg k143 2 (pc' := 27) (ls' := [(0, aR 0 0), (1, aI a1), (2, aI a2), (3, aI (nI 1))]) (st' := []) (cs' := []) (fun _ => rfl) al0 ?_
      refine w_ls [(0, aR 0 0), (1, aI a1), (2, aI a2), (3, aI (nI 1))] (lq_c rfl (lq_c rfl (lq_c rfl (lq_c rfl lq_n)))) ?_
      exact L27_2 _ _ _ _ _ h
    · subst ho18
      obtain rfl := Option.some.inj h
      exact w_xcallV k143 (sn_158 _ _ _ hv4) rfl (st := []) rfl Ez_r
  · subst ho21
    obtain rfl := Option.some.inj h
    exact w_xcallV k143 (sn_157 _ _ _ _ hv2) rfl (st := []) rfl Ez_r
set_option maxRecDepth 20000 in
set_option maxHeartbeats 4000000 in
/-- BallotBus$State.answersOf -/
theorem sn_75 (i0 : Nat) (a1 : Int32) {Y : Sm} (v : Int32) (Z : Sm) (h : fn_75 i0 a1 Y = some (v, Z)) : Mt 4 0 75 [aR 21 i0, aI a1] Y (Rt (some (aI v)) Z) nX := by
  refine Mt_of [(0, aR 21 i0), (1, aI a1)] ?_
  generalize ho : (v, Z) = o at h
  have hv9 : v = o.1 := congrArg Prod.fst ho
  have hZ9 : Z = o.2 := congrArg Prod.snd ho
  clear ho
  subst hv9 hZ9
  unfold fn_75 at h
  refine w_sg k75 2 (pc' := 2) (ls' := [(0, aR 21 i0), (1, aI a1)]) (st' := [aI (-1 : Int32), aI a1]) (cs' := []) (fun _ => rfl) al0 ?_
  refine w_icmp_ne k75 rfl (fun c => ?_) (fun c => ?_)
  · replace h := if_f c h
    obtain ⟨hc1, h⟩ := ck_some h
    refine w_sg k75 5 (pc' := 21) (ls' := [(0, aR 21 i0), (1, aI a1)]) (st' := [aI (gI Y.1 32 i0 (ix a1))]) (cs' := [vp_in a1 8]) (fun _ => rfl) (al1 (vin hc1)) ?_
    obtain rfl := Option.some.inj h
    exact w_ireturn k75 ⟨rfl, rfl⟩
  · replace h := if_t c h
    refine w_sg k75 3 (pc' := 21) (ls' := [(0, aR 21 i0), (1, aI a1)]) (st' := [aI (gI Y.1 21 i0 8)]) (cs' := []) (fun _ => rfl) al0 ?_
    obtain rfl := Option.some.inj h
    exact w_ireturn k75 ⟨rfl, rfl⟩
set_option maxRecDepth 20000 in
set_option maxHeartbeats 4000000 in
/-- BallotBus.answersIn -/
theorem sn_144 (a1 : Int32) (a2 : Int32) {Y : Sm} (v : (Int32 ⊕ Nat)) (Z : Sm) (h : fn_144 a1 a2 Y = some (v, Z)) : Mt 10 2 144 [aR 0 0, aI a1, aI a2] Y (Pz (fun v => some (aI v)) v Z) (Ez v Z) := by
  refine Mt_of [(0, aR 0 0), (1, aI a1), (2, aI a2)] ?_
  generalize ho : (v, Z) = o at h
  have hv9 : v = o.1 := congrArg Prod.fst ho
  have hZ9 : Z = o.2 := congrArg Prod.snd ho
  clear ho
  subst hv9 hZ9
  unfold fn_144 at h
  have J10_0 : ∀ (l1 : Int32) (l2 : Int32) (Y : Sm), fn_144_J10 l1 l2 Y = some o → Wm 10 2 144 0 10 [(0, aR 0 0), (1, aI l1), (2, aI l2)] [] Y (Pz (fun v => some (aI v)) o.1 o.2) (Ez o.1 o.2) := by
    intro l1 l2 Y h
    unfold fn_144_J10 at h
    refine w_sg k144 3 (pc' := 15) (ls' := [(0, aR 0 0), (1, aI l1), (2, aI l2)]) (st' := [aI (nI 500), aI l1, aR 0 0]) (cs' := []) (fun _ => rfl) al0 ?_
    obtain ⟨o14, Y1, hv2, ⟨_, ho15, h⟩ | ⟨x13, ho15, h⟩⟩ := bx_some h
    · subst ho15
      refine w_cV0 k144 (sn_157 _ _ _ _ hv2) rfl (st := []) rfl ?_ (fun _ _ q => q.elim)
      refine w_sg k144 4 (pc' := 26) (ls' := [(0, aR 0 0), (1, aI l1), (2, aI l2)]) (st' := [aR 21 0, aR 21 1]) (cs' := []) (fun _ => rfl) al0 ?_
      obtain ⟨_, Y3, hv4, h⟩ := bd_some h
      refine w_cV0 k144 (sn_72 _ _ _ _ hv4) rfl (st := []) rfl ?_ (fun _ _ q => q.elim)
      refine w_sg k144 5 (pc' := 38) (ls' := [(0, aR 0 0), (1, aI l1), (2, aI l2)]) (st' := [aR 39 0, aI l1, aR 21 1]) (cs' := []) (fun _ => rfl) al0 ?_
      obtain ⟨_, Y5, hv6, h⟩ := bd_some h
      refine w_cV0 k144 (sn_85 _ _ _ _ hv6) rfl (st := []) rfl ?_ (fun _ _ q => q.elim)
      refine w_sg k144 3 (pc' := 46) (ls' := [(0, aR 0 0), (1, aI l1), (2, aI l2)]) (st' := [aI l2, aR 21 1]) (cs' := []) (fun _ => rfl) al0 ?_
      obtain ⟨v9, Y7, hv8, h⟩ := bd_some h
      refine w_cV1 k144 (sn_75 _ _ _ _ hv8) rfl (st := []) rfl ?_ (fun _ _ q => q.elim)
      refine w_sg k144 3 (pc' := 54) (ls' := [(0, aR 0 0), (1, aI l1), (2, aI l2)]) (st' := [aI l2, aR 21 0, aI v9]) (cs' := []) (fun _ => rfl) al0 ?_
      obtain ⟨v12, Y10, hv11, h⟩ := bd_some h
      refine w_cV1 k144 (sn_75 _ _ _ _ hv11) rfl (st := [aI v9]) rfl ?_ (fun _ _ q => q.elim)
      refine w_sg k144 1 (pc' := 58) (ls' := [(0, aR 0 0), (1, aI l1), (2, aI l2)]) (st' := [aI (v9 - v12)]) (cs' := []) (fun _ => rfl) al0 ?_
      obtain rfl := Option.some.inj h
      exact w_ireturn k144 Pz_l
    · subst ho15
      obtain rfl := Option.some.inj h
      exact w_xcallV k144 (sn_157 _ _ _ _ hv2) rfl (st := []) rfl Ez_r
  have J10_1 : ∀ (l1 : Int32) (l2 : Int32) (Y : Sm), fn_144_J10_1 l1 l2 Y = some o → Wm 10 2 144 1 10 [(0, aR 0 0), (1, aI l1), (2, aI l2)] [] Y (Pz (fun v => some (aI v)) o.1 o.2) (Ez o.1 o.2) := by
    intro l1 l2 Y h
    unfold fn_144_J10_1 at h
    refine w_sg k144 3 (pc' := 15) (ls' := [(0, aR 0 0), (1, aI l1), (2, aI l2)]) (st' := [aI (nI 500), aI l1, aR 0 0]) (cs' := []) (fun _ => rfl) al0 ?_
    obtain ⟨o31, Y18, hv19, ⟨_, ho32, h⟩ | ⟨x30, ho32, h⟩⟩ := bx_some h
    · subst ho32
      refine w_cV0 k144 (sn_157 _ _ _ _ hv19) rfl (st := []) rfl ?_ (fun _ _ q => q.elim)
      refine w_sg k144 4 (pc' := 26) (ls' := [(0, aR 0 0), (1, aI l1), (2, aI l2)]) (st' := [aR 21 0, aR 21 1]) (cs' := []) (fun _ => rfl) al0 ?_
      obtain ⟨_, Y20, hv21, h⟩ := bd_some h
      refine w_cV0 k144 (sn_72 _ _ _ _ hv21) rfl (st := []) rfl ?_ (fun _ _ q => q.elim)
      refine w_sg k144 5 (pc' := 38) (ls' := [(0, aR 0 0), (1, aI l1), (2, aI l2)]) (st' := [aR 39 0, aI l1, aR 21 1]) (cs' := []) (fun _ => rfl) al0 ?_
      obtain ⟨_, Y22, hv23, h⟩ := bd_some h
      refine w_cV0 k144 (sn_85 _ _ _ _ hv23) rfl (st := []) rfl ?_ (fun _ _ q => q.elim)
      refine w_sg k144 3 (pc' := 46) (ls' := [(0, aR 0 0), (1, aI l1), (2, aI l2)]) (st' := [aI l2, aR 21 1]) (cs' := []) (fun _ => rfl) al0 ?_
      obtain ⟨v26, Y24, hv25, h⟩ := bd_some h
      refine w_cV1 k144 (sn_75 _ _ _ _ hv25) rfl (st := []) rfl ?_ (fun _ _ q => q.elim)
      refine w_sg k144 3 (pc' := 54) (ls' := [(0, aR 0 0), (1, aI l1), (2, aI l2)]) (st' := [aI l2, aR 21 0, aI v26]) (cs' := []) (fun _ => rfl) al0 ?_
      obtain ⟨v29, Y27, hv28, h⟩ := bd_some h
      refine w_cV1 k144 (sn_75 _ _ _ _ hv28) rfl (st := [aI v26]) rfl ?_ (fun _ _ q => q.elim)
      refine w_sg k144 1 (pc' := 58) (ls' := [(0, aR 0 0), (1, aI l1), (2, aI l2)]) (st' := [aI (v26 - v29)]) (cs' := []) (fun _ => rfl) al0 ?_
      obtain rfl := Option.some.inj h
      exact w_ireturn k144 Pz_l
    · subst ho32
      obtain rfl := Option.some.inj h
      exact w_xcallV k144 (sn_157 _ _ _ _ hv19) rfl (st := []) rfl Ez_r
  refine w_sg k144 2 (pc' := 2) (ls' := [(0, aR 0 0), (1, aI a1), (2, aI a2)]) (st' := [aI (-1 : Int32), aI a2]) (cs' := []) (fun _ => rfl) al0 ?_
  refine w_icmp_eq k144 rfl (fun c => ?_) (fun c => ?_)
  · replace h := if_t c h
    refine w_ls [(0, aR 0 0), (1, aI a1), (2, aI a2)] (lq_c rfl (lq_c rfl (lq_c rfl lq_n))) ?_
    exact J10_0 _ _ _ h
  · replace h := if_f c h
    refine w_sg k144 2 (pc' := 7) (ls' := [(0, aR 0 0), (1, aI a1), (2, aI a2)]) (st' := [aI a2, aR 0 0]) (cs' := []) (fun _ => rfl) al0 ?_
    obtain ⟨o34, Y16, hv17, ⟨_, ho35, h⟩ | ⟨x33, ho35, h⟩⟩ := bx_some h
    · subst ho35
      refine w_cV0 k144 (sn_154 _ _ _ hv17) rfl (st := []) rfl ?_ (fun _ _ q => q.elim)
      refine w_ls [(0, aR 0 0), (1, aI a1), (2, aI a2)] (lq_c rfl (lq_c rfl (lq_c rfl lq_n))) ?_
      exact J10_1 _ _ _ h
    · subst ho35
      obtain rfl := Option.some.inj h
      exact w_xcallV k144 (sn_154 _ _ _ hv17) rfl (st := []) rfl Ez_r
set_option maxRecDepth 20000 in
set_option maxHeartbeats 4000000 in
/-- BallotBus.bestVeto -/
theorem sn_145 (a1 : Int32) (a2 : Int32) {Y : Sm} (v : (Int32 ⊕ Nat)) (Z : Sm) (h : fn_145 a1 a2 Y = some (v, Z)) : Mt 10 2 145 [aR 0 0, aI a1, aI a2] Y (Pz (fun v => some (aI v)) v Z) (Ez v Z) := by
  refine Mt_of [(0, aR 0 0), (1, aI a1), (2, aI a2)] ?_
  generalize ho : (v, Z) = o at h
  have hv9 : v = o.1 := congrArg Prod.fst ho
  have hZ9 : Z = o.2 := congrArg Prod.snd ho
  clear ho
  subst hv9 hZ9
  unfold fn_145 at h
  have L51_2 : ∀ (l1 : Int32) (l2 : Int32) (n : Nat) (l3 : Int32) (l4 : Int32) (l5 : Int32) (Y : Sm), lp (fun s => fn_145_L51_2 l1 l2 s.1 s.2.1 s.2.2.1 s.2.2.2) n (l3, l4, l5, Y) = some o → Wm 10 2 145 2 51 [(0, aR 0 0), (1, aI l1), (2, aI l2), (3, aI l3), (4, aI l4), (5, aI l5)] [] Y (Pz (fun v => some (aI v)) o.1 o.2) (Ez o.1 o.2) := by
    intro l1 l2 n
    induction n with
    | zero => intro l3 l4 l5 Y h; cases h
    | succ n ih14 =>
      intro l3 l4 l5 Y h
      obtain ⟨q12, h, hn13⟩ := lp_succ h
      replace h : fn_145_L51_2 l1 l2 l3 l4 l5 Y = some q12 := h
      unfold fn_145_L51_2 at h
      refine w_sg k145 4 (pc' := 60) (ls' := [(0, aR 0 0), (1, aI l1), (2, aI l2), (3, aI l3), (4, aI l4), (5, aI l5)]) (st' := [aI (gI Y.1 5 (Y.2 0) 0), aI l5]) (cs' := []) (fun _ => rfl) al0 ?_
      refine w_icmp_ge k145 rfl (fun c => ?_) (fun c => ?_)
      · replace h := if_t c h
        refine w_sg k145 1 (pc' := 142) (ls' := [(0, aR 0 0), (1, aI l1), (2, aI l2), (3, aI l3), (4, aI l4), (5, aI l5)]) (st' := [aI l4]) (cs' := []) (fun _ => rfl) al0 ?_
        obtain rfl := Option.some.inj h
        obtain rfl := lpn_r hn13
        exact w_ireturn k145 Pz_l
      · replace h := if_f c h
        refine w_sg k145 4 (pc' := 70) (ls' := [(0, aR 0 0), (1, aI l1), (2, aI l2), (3, aI l3), (4, aI l4), (5, aI l5)]) (st' := [aI l5, aI l1, aR 21 0]) (cs' := []) (fun _ => rfl) al0 ?_
        obtain ⟨v17, Y15, hv16, h⟩ := bd_some h
        refine w_cV1 k145 (sn_83 _ _ _ _ _ hv16) rfl (st := []) rfl ?_ (fun _ _ q => q.elim)
        refine w_if_eq k145 rfl (fun c => ?_) (fun c => ?_)
        · replace h := if_t c h
          refine w_sg k145 1 (pc' := 137) (ls' := [(0, aR 0 0), (1, aI l1), (2, aI l2), (3, aI l3), (4, aI l4), (5, aI (l5 + (nI 1)))]) (st' := []) (cs' := []) (fun _ => rfl) al0 ?_
          refine w_sg k145 1 (pc' := 51) (ls' := [(0, aR 0 0), (1, aI l1), (2, aI l2), (3, aI l3), (4, aI l4), (5, aI (l5 + (nI 1)))]) (st' := []) (cs' := []) (fun _ => rfl) al0 ?_
          refine w_ls [(0, aR 0 0), (1, aI l1), (2, aI l2), (3, aI l3), (4, aI l4), (5, aI (l5 + (nI 1)))] (lq_c rfl (lq_c rfl (lq_c rfl (lq_c rfl (lq_c rfl (lq_c rfl lq_n)))))) ?_
          obtain rfl := Option.some.inj h
          exact ih14 _ _ _ _ (lpn_l hn13)
        · replace h := if_f c h
          refine w_sg k145 4 (pc' := 84) (ls' := [(0, aR 0 0), (1, aI l1), (2, aI l2), (3, aI l3), (4, aI l4), (5, aI l5)]) (st' := [aR 21 0, aR 21 1]) (cs' := []) (fun _ => rfl) al0 ?_
          obtain ⟨_, Y18, hv19, h⟩ := bd_some h
          refine w_cV0 k145 (sn_72 _ _ _ _ hv19) rfl (st := []) rfl ?_ (fun _ _ q => q.elim)
          refine w_sg k145 4 (pc' := 94) (ls' := [(0, aR 0 0), (1, aI l1), (2, aI l2), (3, aI l3), (4, aI l4), (5, aI l5)]) (st' := [aI l5, aI l1, aR 21 1]) (cs' := []) (fun _ => rfl) al0 ?_
          obtain ⟨_, Y20, hv21, h⟩ := bd_some h
          refine w_cV0 k145 (sn_84 _ _ _ _ _ hv21) rfl (st := []) rfl ?_ (fun _ _ q => q.elim)
          refine w_sg k145 5 (pc' := 106) (ls' := [(0, aR 0 0), (1, aI l1), (2, aI l2), (3, aI l3), (4, aI l4), (5, aI l5)]) (st' := [aR 39 0, aI l2, aR 21 1]) (cs' := []) (fun _ => rfl) al0 ?_
          obtain ⟨_, Y22, hv23, h⟩ := bd_some h
          refine w_cV0 k145 (sn_85 _ _ _ _ hv23) rfl (st := []) rfl ?_ (fun _ _ q => q.elim)
          refine w_sg k145 3 (pc' := 114) (ls' := [(0, aR 0 0), (1, aI l1), (2, aI l2), (3, aI l3), (4, aI l4), (5, aI l5)]) (st' := [aI l1, aR 21 1]) (cs' := []) (fun _ => rfl) al0 ?_
          obtain ⟨v26, Y24, hv25, h⟩ := bd_some h
          refine w_cV1 k145 (sn_75 _ _ _ _ hv25) rfl (st := []) rfl ?_ (fun _ _ q => q.elim)
          refine w_sg k145 1 (pc' := 118) (ls' := [(0, aR 0 0), (1, aI l1), (2, aI l2), (3, aI l3), (4, aI l4), (5, aI l5)]) (st' := [aI l3, aI v26]) (cs' := []) (fun _ => rfl) al0 ?_
          refine w_icmp_le k145 rfl (fun c => ?_) (fun c => ?_)
          · replace h := if_t c h
            refine w_sg k145 1 (pc' := 137) (ls' := [(0, aR 0 0), (1, aI l1), (2, aI l2), (3, aI l3), (4, aI l4), (5, aI (l5 + (nI 1)))]) (st' := []) (cs' := []) (fun _ => rfl) al0 ?_
            refine w_sg k145 1 (pc' := 51) (ls' := [(0, aR 0 0), (1, aI l1), (2, aI l2), (3, aI l3), (4, aI l4), (5, aI (l5 + (nI 1)))]) (st' := []) (cs' := []) (fun _ => rfl) al0 ?_
            refine w_ls [(0, aR 0 0), (1, aI l1), (2, aI l2), (3, aI l3), (4, aI l4), (5, aI (l5 + (nI 1)))] (lq_c rfl (lq_c rfl (lq_c rfl (lq_c rfl (lq_c rfl (lq_c rfl lq_n)))))) ?_
            obtain rfl := Option.some.inj h
            exact ih14 _ _ _ _ (lpn_l hn13)
          · replace h := if_f c h
            refine w_sg k145 3 (pc' := 126) (ls' := [(0, aR 0 0), (1, aI l1), (2, aI l2), (3, aI l3), (4, aI l4), (5, aI l5)]) (st' := [aI l1, aR 21 1]) (cs' := []) (fun _ => rfl) al0 ?_
            obtain ⟨v29, Y27, hv28, h⟩ := bd_some h
            refine w_cV1 k145 (sn_75 _ _ _ _ hv28) rfl (st := []) rfl ?_ (fun _ _ q => q.elim)
            refine w_sg k145 1 (pc' := 130) (ls' := [(0, aR 0 0), (1, aI l1), (2, aI l2), (3, aI v29), (4, aI l4), (5, aI l5)]) (st' := []) (cs' := []) (fun _ => rfl) al0 ?_
            refine w_sg k145 2 (pc' := 134) (ls' := [(0, aR 0 0), (1, aI l1), (2, aI l2), (3, aI v29), (4, aI l5), (5, aI l5)]) (st' := []) (cs' := []) (fun _ => rfl) al0 ?_
            refine w_sg k145 1 (pc' := 137) (ls' := [(0, aR 0 0), (1, aI l1), (2, aI l2), (3, aI v29), (4, aI l5), (5, aI (l5 + (nI 1)))]) (st' := []) (cs' := []) (fun _ => rfl) al0 ?_
            refine w_sg k145 1 (pc' := 51) (ls' := [(0, aR 0 0), (1, aI l1), (2, aI l2), (3, aI v29), (4, aI l5), (5, aI (l5 + (nI 1)))]) (st' := []) (cs' := []) (fun _ => rfl) al0 ?_
            refine w_ls [(0, aR 0 0), (1, aI l1), (2, aI l2), (3, aI v29), (4, aI l5), (5, aI (l5 + (nI 1)))] (lq_c rfl (lq_c rfl (lq_c rfl (lq_c rfl (lq_c rfl (lq_c rfl lq_n)))))) ?_
            obtain rfl := Option.some.inj h
            exact ih14 _ _ _ _ (lpn_l hn13)
  refine w_sg k145 2 (pc' := 2) (ls' := [(0, aR 0 0), (1, aI a1), (2, aI a2)]) (st' := [aI a1, aR 0 0]) (cs' := []) (fun _ => rfl) al0 ?_
  obtain ⟨o34, Y1, hv2, ⟨_, ho35, h⟩ | ⟨x33, ho35, h⟩⟩ := bx_some h
  · subst ho35
    refine w_cV0 k145 (sn_154 _ _ _ hv2) rfl (st := []) rfl ?_ (fun _ _ q => q.elim)
    refine w_sg k145 3 (pc' := 10) (ls' := [(0, aR 0 0), (1, aI a1), (2, aI a2)]) (st' := [aI (nI 500), aI a2, aR 0 0]) (cs' := []) (fun _ => rfl) al0 ?_
    obtain ⟨o31, Y3, hv4, ⟨_, ho32, h⟩ | ⟨x30, ho32, h⟩⟩ := bx_some h
    · subst ho32
      refine w_cV0 k145 (sn_157 _ _ _ _ hv4) rfl (st := []) rfl ?_ (fun _ _ q => q.elim)
      refine w_sg k145 4 (pc' := 21) (ls' := [(0, aR 0 0), (1, aI a1), (2, aI a2)]) (st' := [aR 21 0, aR 21 1]) (cs' := []) (fun _ => rfl) al0 ?_
      obtain ⟨_, Y5, hv6, h⟩ := bd_some h
      refine w_cV0 k145 (sn_72 _ _ _ _ hv6) rfl (st := []) rfl ?_ (fun _ _ q => q.elim)
      refine w_sg k145 5 (pc' := 33) (ls' := [(0, aR 0 0), (1, aI a1), (2, aI a2)]) (st' := [aR 39 0, aI a2, aR 21 1]) (cs' := []) (fun _ => rfl) al0 ?_
      obtain ⟨_, Y7, hv8, h⟩ := bd_some h
      refine w_cV0 k145 (sn_85 _ _ _ _ hv8) rfl (st := []) rfl ?_ (fun _ _ q => q.elim)
      refine w_sg k145 3 (pc' := 41) (ls' := [(0, aR 0 0), (1, aI a1), (2, aI a2)]) (st' := [aI a1, aR 21 1]) (cs' := []) (fun _ => rfl) al0 ?_
      obtain ⟨v11, Y9, hv10, h⟩ := bd_some h
      refine w_cV1 k145 (sn_75 _ _ _ _ hv10) rfl (st := []) rfl ?_ (fun _ _ q => q.elim)
      refine w_sg k145 1 (pc' := 45) (ls' := [(0, aR 0 0), (1, aI a1), (2, aI a2), (3, aI v11)]) (st' := []) (cs' := []) (fun _ => rfl) al0 ?_
      refine w_sg k145 2 (pc' := 48) (ls' := [(0, aR 0 0), (1, aI a1), (2, aI a2), (3, aI v11), (4, aI (-1 : Int32))]) (st' := []) (cs' := []) (fun _ => rfl) al0 ?_
      refine w_sg k145 2 (pc' := 51) (ls' := [(0, aR 0 0), (1, aI a1), (2, aI a2), (3, aI v11), (4, aI (-1 : Int32)), (5, aI (nI 0))]) (st' := []) (cs' := []) (fun _ => rfl) al0 ?_
      refine w_ls [(0, aR 0 0), (1, aI a1), (2, aI a2), (3, aI v11), (4, aI (-1 : Int32)), (5, aI (nI 0))] (lq_c rfl (lq_c rfl (lq_c rfl (lq_c rfl (lq_c rfl (lq_c rfl lq_n)))))) ?_
      exact L51_2 _ _ _ _ _ _ _ h
    · subst ho32
      obtain rfl := Option.some.inj h
      exact w_xcallV k145 (sn_157 _ _ _ _ hv4) rfl (st := []) rfl Ez_r
  · subst ho35
    obtain rfl := Option.some.inj h
    exact w_xcallV k145 (sn_154 _ _ _ hv2) rfl (st := []) rfl Ez_r
set_option maxRecDepth 20000 in
set_option maxHeartbeats 4000000 in
/-- BallotBus.bestTally -/
theorem sn_146 (a1 : Int32) {Y : Sm} (v : (Int32 ⊕ Nat)) (Z : Sm) (h : fn_146 a1 Y = some (v, Z)) : Mt 10 1 146 [aR 0 0, aI a1] Y (Pz (fun v => some (aI v)) v Z) (Ez v Z) := by
  refine Mt_of [(0, aR 0 0), (1, aI a1)] ?_
  generalize ho : (v, Z) = o at h
  have hv9 : v = o.1 := congrArg Prod.fst ho
  have hZ9 : Z = o.2 := congrArg Prod.snd ho
  clear ho
  subst hv9 hZ9
  unfold fn_146 at h
  have L15_1 : ∀ (l1 : Int32) (n : Nat) (l2 : Int32) (l3 : Int32) (l4 : Int32) (Y : Sm), lp (fun s => fn_146_L15_1 l1 s.1 s.2.1 s.2.2.1 s.2.2.2) n (l2, l3, l4, Y) = some o → Wm 10 1 146 1 15 [(0, aR 0 0), (1, aI l1), (2, aI l2), (3, aI l3), (4, aI l4)] [] Y (Pz (fun v => some (aI v)) o.1 o.2) (Ez o.1 o.2) := by
    intro l1 n
    induction n with
    | zero => intro l2 l3 l4 Y h; cases h
    | succ n ih5 =>
      intro l2 l3 l4 Y h
      obtain ⟨q3, h, hn4⟩ := lp_succ h
      replace h : fn_146_L15_1 l1 l2 l3 l4 Y = some q3 := h
      unfold fn_146_L15_1 at h
      refine w_sg k146 2 (pc' := 18) (ls' := [(0, aR 0 0), (1, aI l1), (2, aI l2), (3, aI l3), (4, aI l4)]) (st' := [aI (nI 2), aI l4]) (cs' := []) (fun _ => rfl) al0 ?_
      refine w_icmp_gt k146 rfl (fun c => ?_) (fun c => ?_)
      · replace h := if_t c h
        refine w_sg k146 1 (pc' := 82) (ls' := [(0, aR 0 0), (1, aI l1), (2, aI l2), (3, aI l3), (4, aI l4)]) (st' := [aI l3]) (cs' := []) (fun _ => rfl) al0 ?_
        obtain rfl := Option.some.inj h
        obtain rfl := lpn_r hn4
        exact w_ireturn k146 Pz_l
      · replace h := if_f c h
        refine w_sg k146 4 (pc' := 29) (ls' := [(0, aR 0 0), (1, aI l1), (2, aI l2), (3, aI l3), (4, aI l4)]) (st' := [aR 21 0, aR 21 1]) (cs' := []) (fun _ => rfl) al0 ?_
        obtain ⟨_, Y6, hv7, h⟩ := bd_some h
        refine w_cV0 k146 (sn_72 _ _ _ _ hv7) rfl (st := []) rfl ?_ (fun _ _ q => q.elim)
        refine w_sw k146 4 (Z := (sI Y6 21 1 2 l4)) (pc' := 41) (ls' := [(0, aR 0 0), (1, aI l1), (2, aI l2), (3, aI l3), (4, aI l4)]) (st' := []) (cs' := [allw 21 1]) (fun _ => rfl) rfl (al1 rfl) ?_
        replace h := wr_some h
        generalize (sI Y6 21 1 2 l4) = Y8 at h ⊢
        refine w_sg k146 5 (pc' := 50) (ls' := [(0, aR 0 0), (1, aI l1), (2, aI l2), (3, aI l3), (4, aI l4)]) (st' := [aR 39 0, aI l1, aR 21 1]) (cs' := []) (fun _ => rfl) al0 ?_
        obtain ⟨_, Y9, hv10, h⟩ := bd_some h
        refine w_cV0 k146 (sn_85 _ _ _ _ hv10) rfl (st := []) rfl ?_ (fun _ _ q => q.elim)
        refine w_sg k146 4 (pc' := 61) (ls' := [(0, aR 0 0), (1, aI l1), (2, aI l2), (3, aI l3), (4, aI l4)]) (st' := [aI l2, aI (gI Y9.1 21 1 8)]) (cs' := []) (fun _ => rfl) al0 ?_
        refine w_icmp_le k146 rfl (fun c => ?_) (fun c => ?_)
        · replace h := if_t c h
          refine w_sg k146 1 (pc' := 78) (ls' := [(0, aR 0 0), (1, aI l1), (2, aI l2), (3, aI l3), (4, aI (l4 + (nI 1)))]) (st' := []) (cs' := []) (fun _ => rfl) al0 ?_
          refine w_sg k146 1 (pc' := 15) (ls' := [(0, aR 0 0), (1, aI l1), (2, aI l2), (3, aI l3), (4, aI (l4 + (nI 1)))]) (st' := []) (cs' := []) (fun _ => rfl) al0 ?_
          refine w_ls [(0, aR 0 0), (1, aI l1), (2, aI l2), (3, aI l3), (4, aI (l4 + (nI 1)))] (lq_c rfl (lq_c rfl (lq_c rfl (lq_c rfl (lq_c rfl lq_n))))) ?_
          obtain rfl := Option.some.inj h
          exact ih5 _ _ _ _ (lpn_l hn4)
        · replace h := if_f c h
          refine w_sg k146 4 (pc' := 72) (ls' := [(0, aR 0 0), (1, aI l1), (2, aI (gI Y9.1 21 1 8)), (3, aI l3), (4, aI l4)]) (st' := []) (cs' := []) (fun _ => rfl) al0 ?_
          refine w_sg k146 2 (pc' := 75) (ls' := [(0, aR 0 0), (1, aI l1), (2, aI (gI Y9.1 21 1 8)), (3, aI l4), (4, aI l4)]) (st' := []) (cs' := []) (fun _ => rfl) al0 ?_
          refine w_sg k146 1 (pc' := 78) (ls' := [(0, aR 0 0), (1, aI l1), (2, aI (gI Y9.1 21 1 8)), (3, aI l4), (4, aI (l4 + (nI 1)))]) (st' := []) (cs' := []) (fun _ => rfl) al0 ?_
          refine w_sg k146 1 (pc' := 15) (ls' := [(0, aR 0 0), (1, aI l1), (2, aI (gI Y9.1 21 1 8)), (3, aI l4), (4, aI (l4 + (nI 1)))]) (st' := []) (cs' := []) (fun _ => rfl) al0 ?_
          refine w_ls [(0, aR 0 0), (1, aI l1), (2, aI (gI Y9.1 21 1 8)), (3, aI l4), (4, aI (l4 + (nI 1)))] (lq_c rfl (lq_c rfl (lq_c rfl (lq_c rfl (lq_c rfl lq_n))))) ?_
          obtain rfl := Option.some.inj h
          exact ih5 _ _ _ _ (lpn_l hn4)
  refine w_sg k146 3 (pc' := 5) (ls' := [(0, aR 0 0), (1, aI a1)]) (st' := [aI (nI 500), aI a1, aR 0 0]) (cs' := []) (fun _ => rfl) al0 ?_
  obtain ⟨o12, Y1, hv2, ⟨_, ho13, h⟩ | ⟨x11, ho13, h⟩⟩ := bx_some h
  · subst ho13
    refine w_cV0 k146 (sn_157 _ _ _ _ hv2) rfl (st := []) rfl ?_ (fun _ _ q => q.elim)
    refine w_sg k146 2 (pc' := 10) (ls' := [(0, aR 0 0), (1, aI a1), (2, aI (-1 : Int32))]) (st' := []) (cs' := []) (fun _ => rfl) al0 ?_
    refine w_sg k146 2 (pc' := 12) (ls' := [(0, aR 0 0), (1, aI a1), (2, aI (-1 : Int32)), (3, aI (nI 0))]) (st' := []) (cs' := []) (fun _ => rfl) al0 ?_
    refine w_sg k146 2 (pc' := 15) (ls' := [(0, aR 0 0), (1, aI a1), (2, aI (-1 : Int32)), (3, aI (nI 0)), (4, aI (nI 0))]) (st' := []) (cs' := []) (fun _ => rfl) al0 ?_
    refine w_ls [(0, aR 0 0), (1, aI a1), (2, aI (-1 : Int32)), (3, aI (nI 0)), (4, aI (nI 0))] (lq_c rfl (lq_c rfl (lq_c rfl (lq_c rfl (lq_c rfl lq_n))))) ?_
    exact L15_1 _ _ _ _ _ _ h
  · subst ho13
    obtain rfl := Option.some.inj h
    exact w_xcallV k146 (sn_157 _ _ _ _ hv2) rfl (st := []) rfl Ez_r
set_option maxRecDepth 20000 in
set_option maxHeartbeats 4000000 in
/-- BallotBus$Rows.encode -/
theorem sn_49 (a1 : Int32) {Y : Sm} (v : Int32) (Z : Sm) (h : fn_49 a1 Y = some (v, Z)) : Mt 4 0 49 [aR 46 0, aI a1] Y (Rt (some (aI v)) Z) nX := by
  refine Mt_of [(0, aR 46 0), (1, aI a1)] ?_
  generalize ho : (v, Z) = o at h
  have hv9 : v = o.1 := congrArg Prod.fst ho
  have hZ9 : Z = o.2 := congrArg Prod.snd ho
  clear ho
  subst hv9 hZ9
  unfold fn_49 at h
  have L4_0 : ∀ (l1 : Int32) (n : Nat) (l2 : Int32) (l3 : Int32) (Y : Sm), lp (fun s => fn_49_L4 l1 s.1 s.2.1 s.2.2) n (l2, l3, Y) = some o → Wm 4 0 49 0 4 [(0, aR 46 0), (1, aI l1), (2, aI l2), (3, aI l3)] [] Y (Rt (some (aI o.1)) o.2) nX := by
    intro l1 n
    induction n with
    | zero => intro l2 l3 Y h; cases h
    | succ n ih3 =>
      intro l2 l3 Y h
      obtain ⟨q1, h, hn2⟩ := lp_succ h
      replace h : fn_49_L4 l1 l2 l3 Y = some q1 := h
      unfold fn_49_L4 at h
      refine w_sg k49 2 (pc' := 6) (ls' := [(0, aR 46 0), (1, aI l1), (2, aI l2), (3, aI l3)]) (st' := [aI l1, aI l3]) (cs' := []) (fun _ => rfl) al0 ?_
      refine w_icmp_ge k49 rfl (fun c => ?_) (fun c => ?_)
      · replace h := if_t c h
        refine w_sg k49 1 (pc' := 31) (ls' := [(0, aR 46 0), (1, aI l1), (2, aI l2), (3, aI l3)]) (st' := [aI l2]) (cs' := []) (fun _ => rfl) al0 ?_
        obtain rfl := Option.some.inj h
        obtain rfl := lpn_r hn2
        exact w_ireturn k49 ⟨rfl, rfl⟩
      · replace h := if_f c h
        refine w_sg k49 3 (pc' := 12) (ls' := [(0, aR 46 0), (1, aI l1), (2, aI l2), (3, aI l3)]) (st' := [aI (nI 5), aI l3]) (cs' := []) (fun _ => rfl) al0 ?_
        refine w_icmp_ge k49 rfl (fun c => ?_) (fun c => ?_)
        · replace h := if_t c h
          refine w_sg k49 1 (pc' := 31) (ls' := [(0, aR 46 0), (1, aI l1), (2, aI l2), (3, aI l3)]) (st' := [aI l2]) (cs' := []) (fun _ => rfl) al0 ?_
          obtain rfl := Option.some.inj h
          obtain rfl := lpn_r hn2
          exact w_ireturn k49 ⟨rfl, rfl⟩
        · replace h := if_f c h
          obtain ⟨hc4, h⟩ := ck_some h
          refine w_sg k49 8 (pc' := 24) (ls' := [(0, aR 46 0), (1, aI l1), (2, aI ((l2 * (nI 10)) + (gI Y.1 46 0 (ix l3)))), (3, aI l3)]) (st' := []) (cs' := [vp_in l3 5]) (fun _ => rfl) (al1 (vin hc4)) ?_
          refine w_sg k49 1 (pc' := 27) (ls' := [(0, aR 46 0), (1, aI l1), (2, aI ((l2 * (nI 10)) + (gI Y.1 46 0 (ix l3)))), (3, aI (l3 + (nI 1)))]) (st' := []) (cs' := []) (fun _ => rfl) al0 ?_
          refine w_sg k49 1 (pc' := 4) (ls' := [(0, aR 46 0), (1, aI l1), (2, aI ((l2 * (nI 10)) + (gI Y.1 46 0 (ix l3)))), (3, aI (l3 + (nI 1)))]) (st' := []) (cs' := []) (fun _ => rfl) al0 ?_
          refine w_ls [(0, aR 46 0), (1, aI l1), (2, aI ((l2 * (nI 10)) + (gI Y.1 46 0 (ix l3)))), (3, aI (l3 + (nI 1)))] (lq_c rfl (lq_c rfl (lq_c rfl (lq_c rfl lq_n)))) ?_
          obtain rfl := Option.some.inj h
          exact ih3 _ _ _ (lpn_l hn2)
  refine w_sg k49 2 (pc' := 2) (ls' := [(0, aR 46 0), (1, aI a1), (2, aI (nI 0))]) (st' := []) (cs' := []) (fun _ => rfl) al0 ?_
  refine w_sg k49 2 (pc' := 4) (ls' := [(0, aR 46 0), (1, aI a1), (2, aI (nI 0)), (3, aI (nI 0))]) (st' := []) (cs' := []) (fun _ => rfl) al0 ?_
  refine w_ls [(0, aR 46 0), (1, aI a1), (2, aI (nI 0)), (3, aI (nI 0))] (lq_c rfl (lq_c rfl (lq_c rfl (lq_c rfl lq_n)))) ?_
  exact L4_0 _ _ _ _ _ h
set_option maxRecDepth 20000 in
set_option maxHeartbeats 4000000 in
/-- BallotBus.bestBallot -/
theorem sn_147 (a1 : Int32) {Y : Sm} (v : (Int32 ⊕ Nat)) (Z : Sm) (h : fn_147 a1 Y = some (v, Z)) : Mt 10 1 147 [aR 0 0, aI a1] Y (Pz (fun v => some (aI v)) v Z) (Ez v Z) := by
  refine Mt_of [(0, aR 0 0), (1, aI a1)] ?_
  generalize ho : (v, Z) = o at h
  have hv9 : v = o.1 := congrArg Prod.fst ho
  have hZ9 : Z = o.2 := congrArg Prod.snd ho
  clear ho
  subst hv9 hZ9
  unfold fn_147 at h
  have L24_1 : ∀ (l1 : Int32) (n : Nat) (l2 : Int32) (l3 : Int32) (l4 : Int32) (l5 : Int32) (Y : Sm), lp (fun s => fn_147_L24_1 l1 s.1 s.2.1 s.2.2.1 s.2.2.2.1 s.2.2.2.2) n (l2, l3, l4, l5, Y) = some o → Wm 10 1 147 1 24 [(0, aR 0 0), (1, aI l1), (2, aI l2), (3, aI l3), (4, aI l4), (5, aI l5)] [] Y (Pz (fun v => some (aI v)) o.1 o.2) (Ez o.1 o.2) := by
    intro l1 n
    induction n with
    | zero => intro l2 l3 l4 l5 Y h; cases h
    | succ n ih7 =>
      intro l2 l3 l4 l5 Y h
      obtain ⟨q5, h, hn6⟩ := lp_succ h
      replace h : fn_147_L24_1 l1 l2 l3 l4 l5 Y = some q5 := h
      unfold fn_147_L24_1 at h
      refine w_sg k147 1 (pc' := 26) (ls' := [(0, aR 0 0), (1, aI l1), (2, aI l2), (3, aI l3), (4, aI l4), (5, aI l5)]) (st' := [aI l4]) (cs' := []) (fun _ => rfl) al0 ?_
      refine w_if_eq k147 rfl (fun c => ?_) (fun c => ?_)
      · replace h := if_t c h
        refine w_sg k147 1 (pc' := 133) (ls' := [(0, aR 0 0), (1, aI l1), (2, aI l2), (3, aI l3), (4, aI l4), (5, aI l5)]) (st' := [aI l3]) (cs' := []) (fun _ => rfl) al0 ?_
        obtain rfl := Option.some.inj h
        obtain rfl := lpn_r hn6
        exact w_ireturn k147 Pz_l
      · replace h := if_f c h
        refine w_sg k147 2 (pc' := 33) (ls' := [(0, aR 0 0), (1, aI l1), (2, aI l2), (3, aI l3), (4, aI l4), (5, aI l5)]) (st' := [aI (nI 120), aI l5]) (cs' := []) (fun _ => rfl) al0 ?_
        refine w_icmp_ge k147 rfl (fun c => ?_) (fun c => ?_)
        · replace h := if_t c h
          refine w_sg k147 1 (pc' := 133) (ls' := [(0, aR 0 0), (1, aI l1), (2, aI l2), (3, aI l3), (4, aI l4), (5, aI l5)]) (st' := [aI l3]) (cs' := []) (fun _ => rfl) al0 ?_
          obtain rfl := Option.some.inj h
          obtain rfl := lpn_r hn6
          exact w_ireturn k147 Pz_l
        · replace h := if_f c h
          refine w_sg k147 4 (pc' := 44) (ls' := [(0, aR 0 0), (1, aI l1), (2, aI l2), (3, aI l3), (4, aI l4), (5, aI l5)]) (st' := [aR 21 0, aR 21 1]) (cs' := []) (fun _ => rfl) al0 ?_
          obtain ⟨_, Y8, hv9, h⟩ := bd_some h
          refine w_cV0 k147 (sn_72 _ _ _ _ hv9) rfl (st := []) rfl ?_ (fun _ _ q => q.elim)
          refine w_sg k147 4 (pc' := 55) (ls' := [(0, aR 0 0), (1, aI l1), (2, aI l2), (3, aI l3), (4, aI l4), (5, aI l5)]) (st' := [aR 46 0, aR 21 1]) (cs' := []) (fun _ => rfl) al0 ?_
          obtain ⟨_, Y10, hv11, h⟩ := bd_some h
          refine w_cV0 k147 (sn_82 _ _ _ hv11) rfl (st := []) rfl ?_ (fun _ _ q => q.elim)
          refine w_sg k147 5 (pc' := 67) (ls' := [(0, aR 0 0), (1, aI l1), (2, aI l2), (3, aI l3), (4, aI l4), (5, aI l5)]) (st' := [aR 39 0, aI l1, aR 21 1]) (cs' := []) (fun _ => rfl) al0 ?_
          obtain ⟨_, Y12, hv13, h⟩ := bd_some h
          refine w_cV0 k147 (sn_85 _ _ _ _ hv13) rfl (st := []) rfl ?_ (fun _ _ q => q.elim)
          refine w_sg k147 5 (pc' := 81) (ls' := [(0, aR 0 0), (1, aI l1), (2, aI l2), (3, aI l3), (4, aI l4), (5, aI l5)]) (st' := [aI (gI Y12.1 21 0 3), aR 21 1]) (cs' := []) (fun _ => rfl) al0 ?_
          obtain ⟨v16, Y14, hv15, h⟩ := bd_some h
          refine w_cV1 k147 (sn_75 _ _ _ _ hv15) rfl (st := []) rfl ?_ (fun _ _ q => q.elim)
          refine w_sg k147 1 (pc' := 86) (ls' := [(0, aR 0 0), (1, aI l1), (2, aI l2), (3, aI l3), (4, aI l4), (5, aI l5), (6, aI v16)]) (st' := []) (cs' := []) (fun _ => rfl) al0 ?_
          refine w_sg k147 2 (pc' := 89) (ls' := [(0, aR 0 0), (1, aI l1), (2, aI l2), (3, aI l3), (4, aI l4), (5, aI l5), (6, aI v16)]) (st' := [aI l2, aI v16]) (cs' := []) (fun _ => rfl) al0 ?_
          refine w_icmp_le k147 rfl (fun c => ?_) (fun c => ?_)
          · replace h := if_t c h
            refine w_sg k147 5 (pc' := 121) (ls' := [(0, aR 0 0), (1, aI l1), (2, aI l2), (3, aI l3), (4, aI l4), (5, aI l5), (6, aI v16)]) (st' := [aI (gI Y14.1 5 (Y14.2 0) 0), aR 46 0]) (cs' := []) (fun _ => rfl) al0 ?_
            obtain ⟨v19, Y17, hv18, h⟩ := bd_some h
            refine w_cS1 k147 (sn_47 _ _ _ hv18) rfl (st := []) rfl ?_ (fun _ _ q => q.elim)
            refine w_sg k147 1 (pc' := 126) (ls' := [(0, aR 0 0), (1, aI l1), (2, aI l2), (3, aI l3), (4, aI v19), (5, aI l5), (6, aI v16)]) (st' := []) (cs' := []) (fun _ => rfl) al0 ?_
            refine w_sg k147 1 (pc' := 129) (ls' := [(0, aR 0 0), (1, aI l1), (2, aI l2), (3, aI l3), (4, aI v19), (5, aI (l5 + (nI 1))), (6, aI v16)]) (st' := []) (cs' := []) (fun _ => rfl) al0 ?_
            refine w_sg k147 1 (pc' := 24) (ls' := [(0, aR 0 0), (1, aI l1), (2, aI l2), (3, aI l3), (4, aI v19), (5, aI (l5 + (nI 1))), (6, aI v16)]) (st' := []) (cs' := []) (fun _ => rfl) al0 ?_
            refine w_ls [(0, aR 0 0), (1, aI l1), (2, aI l2), (3, aI l3), (4, aI v19), (5, aI (l5 + (nI 1)))] (lq_c rfl (lq_c rfl (lq_c rfl (lq_c rfl (lq_c rfl (lq_c rfl lq_n)))))) ?_
            obtain rfl := Option.some.inj h
            exact ih7 _ _ _ _ _ (lpn_l hn6)
          · replace h := if_f c h
            refine w_sg k147 2 (pc' := 95) (ls' := [(0, aR 0 0), (1, aI l1), (2, aI v16), (3, aI l3), (4, aI l4), (5, aI l5), (6, aI v16)]) (st' := []) (cs' := []) (fun _ => rfl) al0 ?_
            refine w_sg k147 5 (pc' := 106) (ls' := [(0, aR 0 0), (1, aI l1), (2, aI v16), (3, aI l3), (4, aI l4), (5, aI l5), (6, aI v16)]) (st' := [aI (gI Y14.1 5 (Y14.2 0) 0), aR 46 0]) (cs' := []) (fun _ => rfl) al0 ?_
            obtain ⟨v22, Y20, hv21, h⟩ := bd_some h
            refine w_cS1 k147 (sn_49 _ _ _ hv21) rfl (st := []) rfl ?_ (fun _ _ q => q.elim)
            refine w_sg k147 1 (pc' := 110) (ls' := [(0, aR 0 0), (1, aI l1), (2, aI v16), (3, aI v22), (4, aI l4), (5, aI l5), (6, aI v16)]) (st' := []) (cs' := []) (fun _ => rfl) al0 ?_
            refine w_sg k147 5 (pc' := 121) (ls' := [(0, aR 0 0), (1, aI l1), (2, aI v16), (3, aI v22), (4, aI l4), (5, aI l5), (6, aI v16)]) (st' := [aI (gI Y20.1 5 (Y20.2 0) 0), aR 46 0]) (cs' := []) (fun _ => rfl) al0 ?_
            obtain ⟨v25, Y23, hv24, h⟩ := bd_some h
            refine w_cS1 k147 (sn_47 _ _ _ hv24) rfl (st := []) rfl ?_ (fun _ _ q => q.elim)
            refine w_sg k147 1 (pc' := 126) (ls' := [(0, aR 0 0), (1, aI l1), (2, aI v16), (3, aI v22), (4, aI v25), (5, aI l5), (6, aI v16)]) (st' := []) (cs' := []) (fun _ => rfl) al0 ?_
            refine w_sg k147 1 (pc' := 129) (ls' := [(0, aR 0 0), (1, aI l1), (2, aI v16), (3, aI v22), (4, aI v25), (5, aI (l5 + (nI 1))), (6, aI v16)]) (st' := []) (cs' := []) (fun _ => rfl) al0 ?_
            refine w_sg k147 1 (pc' := 24) (ls' := [(0, aR 0 0), (1, aI l1), (2, aI v16), (3, aI v22), (4, aI v25), (5, aI (l5 + (nI 1))), (6, aI v16)]) (st' := []) (cs' := []) (fun _ => rfl) al0 ?_
            refine w_ls [(0, aR 0 0), (1, aI l1), (2, aI v16), (3, aI v22), (4, aI v25), (5, aI (l5 + (nI 1)))] (lq_c rfl (lq_c rfl (lq_c rfl (lq_c rfl (lq_c rfl (lq_c rfl lq_n)))))) ?_
            obtain rfl := Option.some.inj h
            exact ih7 _ _ _ _ _ (lpn_l hn6)
  refine w_sg k147 3 (pc' := 4) (ls' := [(0, aR 0 0), (1, aI a1)]) (st' := [aI (nI 100), aI a1, aR 0 0]) (cs' := []) (fun _ => rfl) al0 ?_
  obtain ⟨o27, Y1, hv2, ⟨_, ho28, h⟩ | ⟨x26, ho28, h⟩⟩ := bx_some h
  · subst ho28
    refine w_cV0 k147 (sn_157 _ _ _ _ hv2) rfl (st := []) rfl ?_ (fun _ _ q => q.elim)
    refine w_sg k147 2 (pc' := 11) (ls' := [(0, aR 0 0), (1, aI a1)]) (st' := [aR 46 0]) (cs' := []) (fun _ => rfl) al0 ?_
    obtain ⟨_, Y3, hv4, h⟩ := bd_some h
    refine w_cS0 k147 (sn_43_46  _ _ hv4) rfl (st := []) rfl ?_ (fun _ _ q => q.elim)
    refine w_sg k147 2 (pc' := 16) (ls' := [(0, aR 0 0), (1, aI a1), (2, aI (-1 : Int32))]) (st' := []) (cs' := []) (fun _ => rfl) al0 ?_
    refine w_sg k147 2 (pc' := 18) (ls' := [(0, aR 0 0), (1, aI a1), (2, aI (-1 : Int32)), (3, aI (-1 : Int32))]) (st' := []) (cs' := []) (fun _ => rfl) al0 ?_
    refine w_sg k147 2 (pc' := 21) (ls' := [(0, aR 0 0), (1, aI a1), (2, aI (-1 : Int32)), (3, aI (-1 : Int32)), (4, aI (nI 1))]) (st' := []) (cs' := []) (fun _ => rfl) al0 ?_
    refine w_sg k147 2 (pc' := 24) (ls' := [(0, aR 0 0), (1, aI a1), (2, aI (-1 : Int32)), (3, aI (-1 : Int32)), (4, aI (nI 1)), (5, aI (nI 0))]) (st' := []) (cs' := []) (fun _ => rfl) al0 ?_
    refine w_ls [(0, aR 0 0), (1, aI a1), (2, aI (-1 : Int32)), (3, aI (-1 : Int32)), (4, aI (nI 1)), (5, aI (nI 0))] (lq_c rfl (lq_c rfl (lq_c rfl (lq_c rfl (lq_c rfl (lq_c rfl lq_n)))))) ?_
    exact L24_1 _ _ _ _ _ _ _ h
  · subst ho28
    obtain rfl := Option.some.inj h
    exact w_xcallV k147 (sn_157 _ _ _ _ hv2) rfl (st := []) rfl Ez_r
set_option maxRecDepth 20000 in
set_option maxHeartbeats 4000000 in
/-- BallotBus.silentIn -/
theorem sn_148 (a1 : Int32) {Y : Sm} (v : (Int32 ⊕ Nat)) (Z : Sm) (h : fn_148 a1 Y = some (v, Z)) : Mt 9 1 148 [aR 0 0, aI a1] Y (Pz (fun v => some (aI v)) v Z) (Ez v Z) := by
  refine Mt_of [(0, aR 0 0), (1, aI a1)] ?_
  generalize ho : (v, Z) = o at h
  have hv9 : v = o.1 := congrArg Prod.fst ho
  have hZ9 : Z = o.2 := congrArg Prod.snd ho
  clear ho
  subst hv9 hZ9
  unfold fn_148 at h
  have L18_1 : ∀ (l1 : Int32) (n : Nat) (l2 : Int32) (Y : Sm), lp (fun s => fn_148_L18_1 l1 s.1 s.2) n (l2, Y) = some o → Wm 9 1 148 1 18 [(0, aR 0 0), (1, aI l1), (2, aI l2)] [] Y (Pz (fun v => some (aI v)) o.1 o.2) (Ez o.1 o.2) := by
    intro l1 n
    induction n with
    | zero => intro l2 Y h; cases h
    | succ n ih7 =>
      intro l2 Y h
      obtain ⟨q5, h, hn6⟩ := lp_succ h
      replace h : fn_148_L18_1 l1 l2 Y = some q5 := h
      unfold fn_148_L18_1 at h
      refine w_sg k148 2 (pc' := 22) (ls' := [(0, aR 0 0), (1, aI l1), (2, aI l2)]) (st' := [aI (nI 1000), aI l2]) (cs' := []) (fun _ => rfl) al0 ?_
      refine w_icmp_gt k148 rfl (fun c => ?_) (fun c => ?_)
      · replace h := if_t c h
        refine w_sg k148 1 (pc' := 56) (ls' := [(0, aR 0 0), (1, aI l1), (2, aI l2)]) (st' := [aI (-1 : Int32)]) (cs' := []) (fun _ => rfl) al0 ?_
        obtain rfl := Option.some.inj h
        obtain rfl := lpn_r hn6
        exact w_ireturn k148 Pz_l
      · replace h := if_f c h
        refine w_sg k148 3 (pc' := 30) (ls' := [(0, aR 0 0), (1, aI l1), (2, aI l2)]) (st' := [aI l1, aR 21 1]) (cs' := []) (fun _ => rfl) al0 ?_
        obtain ⟨v10, Y8, hv9, h⟩ := bd_some h
        refine w_cV1 k148 (sn_73 _ _ _ _ hv9) rfl (st := []) rfl ?_ (fun _ _ q => q.elim)
        refine w_if_ne k148 rfl (fun c => ?_) (fun c => ?_)
        · replace h := if_f c h
          refine w_sg k148 4 (pc' := 46) (ls' := [(0, aR 0 0), (1, aI l1), (2, aI l2)]) (st' := [aR 39 0, aR 21 1]) (cs' := []) (fun _ => rfl) al0 ?_
          obtain ⟨_, Y11, hv12, h⟩ := bd_some h
          refine w_cV0 k148 (sn_86 _ _ _ hv12) rfl (st := []) rfl ?_ (fun _ _ q => q.elim)
          refine w_sg k148 1 (pc' := 52) (ls' := [(0, aR 0 0), (1, aI l1), (2, aI (l2 + (nI 1)))]) (st' := []) (cs' := []) (fun _ => rfl) al0 ?_
          refine w_sg k148 1 (pc' := 18) (ls' := [(0, aR 0 0), (1, aI l1), (2, aI (l2 + (nI 1)))]) (st' := []) (cs' := []) (fun _ => rfl) al0 ?_
          refine w_ls [(0, aR 0 0), (1, aI l1), (2, aI (l2 + (nI 1)))] (lq_c rfl (lq_c rfl (lq_c rfl lq_n))) ?_
          obtain rfl := Option.some.inj h
          exact ih7 _ _ (lpn_l hn6)
        · replace h := if_t c h
          refine w_sg k148 1 (pc' := 37) (ls' := [(0, aR 0 0), (1, aI l1), (2, aI l2)]) (st' := [aI l2]) (cs' := []) (fun _ => rfl) al0 ?_
          obtain rfl := Option.some.inj h
          obtain rfl := lpn_r hn6
          exact w_ireturn k148 Pz_l
  refine w_sg k148 2 (pc' := 2) (ls' := [(0, aR 0 0), (1, aI a1)]) (st' := [aI a1, aR 0 0]) (cs' := []) (fun _ => rfl) al0 ?_
  obtain ⟨o14, Y1, hv2, ⟨_, ho15, h⟩ | ⟨x13, ho15, h⟩⟩ := bx_some h
  · subst ho15
    refine w_cV0 k148 (sn_154 _ _ _ hv2) rfl (st := []) rfl ?_ (fun _ _ q => q.elim)
    refine w_sg k148 4 (pc' := 13) (ls' := [(0, aR 0 0), (1, aI a1)]) (st' := [aR 21 0, aR 21 1]) (cs' := []) (fun _ => rfl) al0 ?_
    obtain ⟨_, Y3, hv4, h⟩ := bd_some h
    refine w_cV0 k148 (sn_72 _ _ _ _ hv4) rfl (st := []) rfl ?_ (fun _ _ q => q.elim)
    refine w_sg k148 2 (pc' := 18) (ls' := [(0, aR 0 0), (1, aI a1), (2, aI (nI 0))]) (st' := []) (cs' := []) (fun _ => rfl) al0 ?_
    refine w_ls [(0, aR 0 0), (1, aI a1), (2, aI (nI 0))] (lq_c rfl (lq_c rfl (lq_c rfl lq_n))) ?_
    exact L18_1 _ _ _ _ h
  · subst ho15
    obtain rfl := Option.some.inj h
    exact w_xcallV k148 (sn_154 _ _ _ hv2) rfl (st := []) rfl Ez_r
set_option maxRecDepth 20000 in
set_option maxHeartbeats 4000000 in
/-- BallotBus.emptyIn -/
theorem sn_149 {Y : Sm} (v : Int32) (Z : Sm) (h : fn_149 Y = some (v, Z)) : Mt 9 0 149 [aR 0 0] Y (Rt (some (aI v)) Z) nX := by
  refine Mt_of [(0, aR 0 0)] ?_
  generalize ho : (v, Z) = o at h
  have hv9 : v = o.1 := congrArg Prod.fst ho
  have hZ9 : Z = o.2 := congrArg Prod.snd ho
  clear ho
  subst hv9 hZ9
  unfold fn_149 at h
  have L13_0 : ∀ (n : Nat) (l1 : Int32) (Y : Sm), lp (fun s => fn_149_L13 s.1 s.2) n (l1, Y) = some o → Wm 9 0 149 0 13 [(0, aR 0 0), (1, aI l1)] [] Y (Rt (some (aI o.1)) o.2) nX := by
    intro n
    induction n with
    | zero => intro l1 Y h; cases h
    | succ n ih5 =>
      intro l1 Y h
      obtain ⟨q3, h, hn4⟩ := lp_succ h
      replace h : fn_149_L13 l1 Y = some q3 := h
      unfold fn_149_L13 at h
      refine w_sg k149 2 (pc' := 17) (ls' := [(0, aR 0 0), (1, aI l1)]) (st' := [aI (nI 1000), aI l1]) (cs' := []) (fun _ => rfl) al0 ?_
      refine w_icmp_gt k149 rfl (fun c => ?_) (fun c => ?_)
      · replace h := if_t c h
        refine w_sg k149 1 (pc' := 53) (ls' := [(0, aR 0 0), (1, aI l1)]) (st' := [aI (-1 : Int32)]) (cs' := []) (fun _ => rfl) al0 ?_
        obtain rfl := Option.some.inj h
        obtain rfl := lpn_r hn4
        exact w_ireturn k149 ⟨rfl, rfl⟩
      · replace h := if_f c h
        refine w_sg k149 4 (pc' := 30) (ls' := [(0, aR 0 0), (1, aI l1)]) (st' := [aI (gI Y.1 12 4 1)]) (cs' := []) (fun _ => rfl) al0 ?_
        refine w_if_ne k149 rfl (fun c => ?_) (fun c => ?_)
        · replace h := if_f c h
          refine w_sg k149 4 (pc' := 43) (ls' := [(0, aR 0 0), (1, aI l1)]) (st' := [aR 39 0, aR 21 1]) (cs' := []) (fun _ => rfl) al0 ?_
          obtain ⟨_, Y6, hv7, h⟩ := bd_some h
          refine w_cV0 k149 (sn_86 _ _ _ hv7) rfl (st := []) rfl ?_ (fun _ _ q => q.elim)
          refine w_sg k149 1 (pc' := 49) (ls' := [(0, aR 0 0), (1, aI (l1 + (nI 1)))]) (st' := []) (cs' := []) (fun _ => rfl) al0 ?_
          refine w_sg k149 1 (pc' := 13) (ls' := [(0, aR 0 0), (1, aI (l1 + (nI 1)))]) (st' := []) (cs' := []) (fun _ => rfl) al0 ?_
          refine w_ls [(0, aR 0 0), (1, aI (l1 + (nI 1)))] (lq_c rfl (lq_c rfl lq_n)) ?_
          obtain rfl := Option.some.inj h
          exact ih5 _ _ (lpn_l hn4)
        · replace h := if_t c h
          refine w_sg k149 1 (pc' := 34) (ls' := [(0, aR 0 0), (1, aI l1)]) (st' := [aI l1]) (cs' := []) (fun _ => rfl) al0 ?_
          obtain rfl := Option.some.inj h
          obtain rfl := lpn_r hn4
          exact w_ireturn k149 ⟨rfl, rfl⟩
  refine w_sg k149 4 (pc' := 8) (ls' := [(0, aR 0 0)]) (st' := [aR 21 0, aR 21 1]) (cs' := []) (fun _ => rfl) al0 ?_
  obtain ⟨_, Y1, hv2, h⟩ := bd_some h
  refine w_cV0 k149 (sn_72 _ _ _ _ hv2) rfl (st := []) rfl ?_ (fun _ _ q => q.elim)
  refine w_sg k149 2 (pc' := 13) (ls' := [(0, aR 0 0), (1, aI (nI 0))]) (st' := []) (cs' := []) (fun _ => rfl) al0 ?_
  refine w_ls [(0, aR 0 0), (1, aI (nI 0))] (lq_c rfl (lq_c rfl lq_n)) ?_
  exact L13_0 _ _ _ h
set_option maxRecDepth 20000 in
set_option maxHeartbeats 4000000 in
/-- BallotBus.putByte -/
theorem sn_161 (a1 : Int32) {Y : Sm} (v : Unit) (Z : Sm) (h : fn_161 a1 Y = some (v, Z)) : Mt 4 0 161 [aR 0 0, aI a1] Y (Rt none Z) nX := by
  refine Mt_of [(0, aR 0 0), (1, aI a1)] ?_
  generalize ho : (v, Z) = o at h
  have hv9 : v = o.1 := congrArg Prod.fst ho
  have hZ9 : Z = o.2 := congrArg Prod.snd ho
  clear ho
  subst hv9 hZ9
  unfold fn_161 at h
  refine w_sg k161 3 (pc' := 6) (ls' := [(0, aR 0 0), (1, aI a1)]) (st' := [aI (nI 64), aI (gI Y.1 0 0 3)]) (cs' := []) (fun _ => rfl) al0 ?_
  refine w_icmp_ge k161 rfl (fun c => ?_) (fun c => ?_)
  · replace h := if_t c h
    obtain rfl := Option.some.inj h
    exact w_return k161 ⟨rfl, rfl⟩
  · replace h := if_f c h
    obtain ⟨hc1, h⟩ := ck_some h
    refine w_sw k161 7 (Z := (sI Y 20 0 (ix (gI Y.1 0 0 3)) ((((a1).toInt8.toInt32)).toInt8.toInt32))) (pc' := 20) (ls' := [(0, aR 0 0), (1, aI a1)]) (st' := []) (cs' := [vp_in (gI Y.1 0 0 3) 64, allw 20 0]) (fun _ => rfl) rfl (al2 (vin hc1) (al1 rfl)) ?_
    replace h := wr_some h
    generalize (sI Y 20 0 (ix (gI Y.1 0 0 3)) ((((a1).toInt8.toInt32)).toInt8.toInt32)) = Y2 at h ⊢
    refine w_sw k161 6 (Z := (sI Y2 0 0 3 ((gI Y2.1 0 0 3) + (nI 1)))) (pc' := 30) (ls' := [(0, aR 0 0), (1, aI a1)]) (st' := []) (cs' := [allw 0 0]) (fun _ => rfl) rfl (al1 rfl) ?_
    replace h := wr_some h
    generalize (sI Y2 0 0 3 ((gI Y2.1 0 0 3) + (nI 1))) = Y3 at h ⊢
    obtain rfl := Option.some.inj h
    exact w_return k161 ⟨rfl, rfl⟩
set_option maxRecDepth 20000 in
set_option maxHeartbeats 4000000 in
/-- BallotBus.putName -/
theorem sn_160 (a1 : Int64) {Y : Sm} (v : Unit) (Z : Sm) (h : fn_160 a1 Y = some (v, Z)) : Mt 5 0 160 [aR 0 0, aJ a1] Y (Rt none Z) nX := by
  refine Mt_of [(0, aR 0 0), (1, aJ a1)] ?_
  generalize ho : (v, Z) = o at h
  have hv9 : v = o.1 := congrArg Prod.fst ho
  have hZ9 : Z = o.2 := congrArg Prod.snd ho
  clear ho
  subst hv9 hZ9
  unfold fn_160 at h
  have L3_0 : ∀ (l1 : Int64) (n : Nat) (l3 : Int32) (Y : Sm), lp (fun s => fn_160_L3 l1 s.1 s.2) n (l3, Y) = some o → Wm 5 0 160 0 3 [(0, aR 0 0), (1, aJ l1), (3, aI l3)] [] Y (Rt none o.2) nX := by
    intro l1 n
    induction n with
    | zero => intro l3 Y h; cases h
    | succ n ih3 =>
      intro l3 Y h
      obtain ⟨q1, h, hn2⟩ := lp_succ h
      replace h : fn_160_L3 l1 l3 Y = some q1 := h
      unfold fn_160_L3 at h
      refine w_sg k160 1 (pc' := 4) (ls' := [(0, aR 0 0), (1, aJ l1), (3, aI l3)]) (st' := [aI l3]) (cs' := []) (fun _ => rfl) al0 ?_
      refine w_if_lt k160 rfl (fun c => ?_) (fun c => ?_)
      · replace h := if_t c h
        obtain rfl := Option.some.inj h
        obtain rfl := lpn_r hn2
        exact w_return k160 ⟨rfl, rfl⟩
      · replace h := if_f c h
        refine w_sg k160 7 (pc' := 17) (ls' := [(0, aR 0 0), (1, aJ l1), (3, aI l3), (4, aI ((((l1 >>> (l3.toInt64 &&& 63))).toInt32) &&& (nI 255)))]) (st' := []) (cs' := []) (fun _ => rfl) al0 ?_
        refine w_sg k160 1 (pc' := 19) (ls' := [(0, aR 0 0), (1, aJ l1), (3, aI l3), (4, aI ((((l1 >>> (l3.toInt64 &&& 63))).toInt32) &&& (nI 255)))]) (st' := [aI ((((l1 >>> (l3.toInt64 &&& 63))).toInt32) &&& (nI 255))]) (cs' := []) (fun _ => rfl) al0 ?_
        refine w_if_eq k160 rfl (fun c => ?_) (fun c => ?_)
        · replace h := if_t c h
          refine w_sg k160 1 (pc' := 31) (ls' := [(0, aR 0 0), (1, aJ l1), (3, aI (l3 + (-8 : Int32))), (4, aI ((((l1 >>> (l3.toInt64 &&& 63))).toInt32) &&& (nI 255)))]) (st' := []) (cs' := []) (fun _ => rfl) al0 ?_
          refine w_sg k160 1 (pc' := 3) (ls' := [(0, aR 0 0), (1, aJ l1), (3, aI (l3 + (-8 : Int32))), (4, aI ((((l1 >>> (l3.toInt64 &&& 63))).toInt32) &&& (nI 255)))]) (st' := []) (cs' := []) (fun _ => rfl) al0 ?_
          refine w_ls [(0, aR 0 0), (1, aJ l1), (3, aI (l3 + (-8 : Int32)))] (lq_c rfl (lq_c rfl (lq_c rfl lq_n))) ?_
          obtain rfl := Option.some.inj h
          exact ih3 _ _ (lpn_l hn2)
        · replace h := if_f c h
          refine w_sg k160 2 (pc' := 25) (ls' := [(0, aR 0 0), (1, aJ l1), (3, aI l3), (4, aI ((((l1 >>> (l3.toInt64 &&& 63))).toInt32) &&& (nI 255)))]) (st' := [aI ((((l1 >>> (l3.toInt64 &&& 63))).toInt32) &&& (nI 255)), aR 0 0]) (cs' := []) (fun _ => rfl) al0 ?_
          obtain ⟨_, Y4, hv5, h⟩ := bd_some h
          refine w_cV0 k160 (sn_161 _ _ _ hv5) rfl (st := []) rfl ?_ (fun _ _ q => q.elim)
          refine w_sg k160 1 (pc' := 31) (ls' := [(0, aR 0 0), (1, aJ l1), (3, aI (l3 + (-8 : Int32))), (4, aI ((((l1 >>> (l3.toInt64 &&& 63))).toInt32) &&& (nI 255)))]) (st' := []) (cs' := []) (fun _ => rfl) al0 ?_
          refine w_sg k160 1 (pc' := 3) (ls' := [(0, aR 0 0), (1, aJ l1), (3, aI (l3 + (-8 : Int32))), (4, aI ((((l1 >>> (l3.toInt64 &&& 63))).toInt32) &&& (nI 255)))]) (st' := []) (cs' := []) (fun _ => rfl) al0 ?_
          refine w_ls [(0, aR 0 0), (1, aJ l1), (3, aI (l3 + (-8 : Int32)))] (lq_c rfl (lq_c rfl (lq_c rfl lq_n))) ?_
          obtain rfl := Option.some.inj h
          exact ih3 _ _ (lpn_l hn2)
  refine w_sg k160 2 (pc' := 3) (ls' := [(0, aR 0 0), (1, aJ a1), (3, aI (nI 40))]) (st' := []) (cs' := []) (fun _ => rfl) al0 ?_
  refine w_ls [(0, aR 0 0), (1, aJ a1), (3, aI (nI 40))] (lq_c rfl (lq_c rfl (lq_c rfl lq_n))) ?_
  exact L3_0 _ _ _ _ h
set_option maxRecDepth 20000 in
set_option maxHeartbeats 4000000 in
/-- BallotBus.printOrder -/
theorem sn_150 {Y : Sm} (v : Int32) (Z : Sm) (h : fn_150 Y = some (v, Z)) : Mt 6 0 150 [aR 0 0] Y (Rt (some (aI v)) Z) nX := by
  refine Mt_of [(0, aR 0 0)] ?_
  generalize ho : (v, Z) = o at h
  have hv9 : v = o.1 := congrArg Prod.fst ho
  have hZ9 : Z = o.2 := congrArg Prod.snd ho
  clear ho
  subst hv9 hZ9
  unfold fn_150 at h
  have L7_0 : ∀ (n : Nat) (l1 : Int32) (Y : Sm), lp (fun s => fn_150_L7 s.1 s.2) n (l1, Y) = some o → Wm 6 0 150 0 7 [(0, aR 0 0), (1, aI l1)] [] Y (Rt (some (aI o.1)) o.2) nX := by
    intro n
    induction n with
    | zero => intro l1 Y h; cases h
    | succ n ih4 =>
      intro l1 Y h
      obtain ⟨q2, h, hn3⟩ := lp_succ h
      replace h : fn_150_L7 l1 Y = some q2 := h
      unfold fn_150_L7 at h
      have J50_0 : ∀ (l1 : Int32) (l2 : Int32) (Y : Sm), fn_150_J50_d1 l1 l2 Y = some q2 → Wm 6 0 150 0 50 [(0, aR 0 0), (1, aI l1), (2, aI l2)] [] Y (Rt (some (aI o.1)) o.2) nX := by
        intro l1 l2 Y h
        unfold fn_150_J50_d1 at h
        obtain ⟨hc6, h⟩ := ck_some h
        refine w_sg k150 6 (pc' := 60) (ls' := [(0, aR 0 0), (1, aI l1), (2, aI l2)]) (st' := [aJ (gJ Y.1 6 (Y.2 0) (ix l2)), aR 0 0]) (cs' := [vp_in l2 5]) (fun _ => rfl) (al1 (vin hc6)) ?_
        obtain ⟨_, Y7, hv8, h⟩ := bd_some h
        refine w_cV0 k150 (sn_160 _ _ _ hv8) rfl (st := []) rfl ?_ (fun _ _ q => q.elim)
        refine w_sg k150 3 (pc' := 68) (ls' := [(0, aR 0 0), (1, aI l1), (2, aI l2)]) (st' := [aI l2, aR 21 0]) (cs' := []) (fun _ => rfl) al0 ?_
        obtain ⟨v11, Y9, hv10, h⟩ := bd_some h
        refine w_cV1 k150 (sn_74 _ _ _ _ hv10) rfl (st := []) rfl ?_ (fun _ _ q => q.elim)
        refine w_if_eq k150 rfl (fun c => ?_) (fun c => ?_)
        · replace h := if_t c h
          refine w_sg k150 1 (pc' := 83) (ls' := [(0, aR 0 0), (1, aI (l1 + (nI 1))), (2, aI l2)]) (st' := []) (cs' := []) (fun _ => rfl) al0 ?_
          refine w_sg k150 1 (pc' := 7) (ls' := [(0, aR 0 0), (1, aI (l1 + (nI 1))), (2, aI l2)]) (st' := []) (cs' := []) (fun _ => rfl) al0 ?_
          refine w_ls [(0, aR 0 0), (1, aI (l1 + (nI 1)))] (lq_c rfl (lq_c rfl lq_n)) ?_
          obtain rfl := Option.some.inj h
          exact ih4 _ _ (lpn_l hn3)
        · replace h := if_f c h
          refine w_sg k150 2 (pc' := 77) (ls' := [(0, aR 0 0), (1, aI l1), (2, aI l2)]) (st' := [aI (nI 42), aR 0 0]) (cs' := []) (fun _ => rfl) al0 ?_
          obtain ⟨_, Y12, hv13, h⟩ := bd_some h
          refine w_cV0 k150 (sn_161 _ _ _ hv13) rfl (st := []) rfl ?_ (fun _ _ q => q.elim)
          refine w_sg k150 1 (pc' := 83) (ls' := [(0, aR 0 0), (1, aI (l1 + (nI 1))), (2, aI l2)]) (st' := []) (cs' := []) (fun _ => rfl) al0 ?_
          refine w_sg k150 1 (pc' := 7) (ls' := [(0, aR 0 0), (1, aI (l1 + (nI 1))), (2, aI l2)]) (st' := []) (cs' := []) (fun _ => rfl) al0 ?_
          refine w_ls [(0, aR 0 0), (1, aI (l1 + (nI 1)))] (lq_c rfl (lq_c rfl lq_n)) ?_
          obtain rfl := Option.some.inj h
          exact ih4 _ _ (lpn_l hn3)
      refine w_sg k150 4 (pc' := 15) (ls' := [(0, aR 0 0), (1, aI l1)]) (st' := [aI (gI Y.1 5 (Y.2 0) 0), aI l1]) (cs' := []) (fun _ => rfl) al0 ?_
      refine w_icmp_ge k150 rfl (fun c => ?_) (fun c => ?_)
      · replace h := if_t c h
        refine w_sg k150 2 (pc' := 90) (ls' := [(0, aR 0 0), (1, aI l1)]) (st' := [aI (gI Y.1 0 0 3)]) (cs' := []) (fun _ => rfl) al0 ?_
        obtain rfl := Option.some.inj h
        obtain rfl := lpn_r hn3
        exact w_ireturn k150 ⟨rfl, rfl⟩
      · replace h := if_f c h
        obtain ⟨hc5, h⟩ := ck_some h
        refine w_sg k150 6 (pc' := 28) (ls' := [(0, aR 0 0), (1, aI l1), (2, aI (gI Y.1 22 0 (ix l1)))]) (st' := []) (cs' := [vp_in l1 5]) (fun _ => rfl) (al1 (vin hc5)) ?_
        refine w_sg k150 1 (pc' := 29) (ls' := [(0, aR 0 0), (1, aI l1), (2, aI (gI Y.1 22 0 (ix l1)))]) (st' := [aI l1]) (cs' := []) (fun _ => rfl) al0 ?_
        refine w_if_le k150 rfl (fun c => ?_) (fun c => ?_)
        · replace h := if_t c h
          refine w_ls [(0, aR 0 0), (1, aI l1), (2, aI (gI Y.1 22 0 (ix l1)))] (lq_c rfl (lq_c rfl (lq_c rfl lq_n))) ?_
          exact J50_0 _ _ _ h
        · replace h := if_f c h
          refine w_sg k150 2 (pc' := 35) (ls' := [(0, aR 0 0), (1, aI l1), (2, aI (gI Y.1 22 0 (ix l1)))]) (st' := [aI (nI 32), aR 0 0]) (cs' := []) (fun _ => rfl) al0 ?_
          obtain ⟨_, Y14, hv15, h⟩ := bd_some h
          refine w_cV0 k150 (sn_161 _ _ _ hv15) rfl (st := []) rfl ?_ (fun _ _ q => q.elim)
          refine w_sg k150 2 (pc' := 41) (ls' := [(0, aR 0 0), (1, aI l1), (2, aI (gI Y.1 22 0 (ix l1)))]) (st' := [aI (nI 62), aR 0 0]) (cs' := []) (fun _ => rfl) al0 ?_
          obtain ⟨_, Y16, hv17, h⟩ := bd_some h
          refine w_cV0 k150 (sn_161 _ _ _ hv17) rfl (st := []) rfl ?_ (fun _ _ q => q.elim)
          refine w_sg k150 2 (pc' := 47) (ls' := [(0, aR 0 0), (1, aI l1), (2, aI (gI Y.1 22 0 (ix l1)))]) (st' := [aI (nI 32), aR 0 0]) (cs' := []) (fun _ => rfl) al0 ?_
          obtain ⟨_, Y18, hv19, h⟩ := bd_some h
          refine w_cV0 k150 (sn_161 _ _ _ hv19) rfl (st := []) rfl ?_ (fun _ _ q => q.elim)
          refine w_ls [(0, aR 0 0), (1, aI l1), (2, aI (gI Y.1 22 0 (ix l1)))] (lq_c rfl (lq_c rfl (lq_c rfl lq_n))) ?_
          exact J50_0 _ _ _ h
  refine w_sw k150 3 (Z := (sI Y 0 0 3 (nI 0))) (pc' := 5) (ls' := [(0, aR 0 0)]) (st' := []) (cs' := [allw 0 0]) (fun _ => rfl) rfl (al1 rfl) ?_
  replace h := wr_some h
  generalize (sI Y 0 0 3 (nI 0)) = Y1 at h ⊢
  refine w_sg k150 2 (pc' := 7) (ls' := [(0, aR 0 0), (1, aI (nI 0))]) (st' := []) (cs' := []) (fun _ => rfl) al0 ?_
  refine w_ls [(0, aR 0 0), (1, aI (nI 0))] (lq_c rfl (lq_c rfl lq_n)) ?_
  exact L7_0 _ _ _ h
set_option maxRecDepth 20000 in
set_option maxHeartbeats 4000000 in
/-- BallotBus.outputByte -/
theorem sn_151 (a1 : Int32) {Y : Sm} (v : Int32) (Z : Sm) (h : fn_151 a1 Y = some (v, Z)) : Mt 4 0 151 [aR 0 0, aI a1] Y (Rt (some (aI v)) Z) nX := by
  refine Mt_of [(0, aR 0 0), (1, aI a1)] ?_
  generalize ho : (v, Z) = o at h
  have hv9 : v = o.1 := congrArg Prod.fst ho
  have hZ9 : Z = o.2 := congrArg Prod.snd ho
  clear ho
  subst hv9 hZ9
  unfold fn_151 at h
  refine w_sg k151 1 (pc' := 1) (ls' := [(0, aR 0 0), (1, aI a1)]) (st' := [aI a1]) (cs' := []) (fun _ => rfl) al0 ?_
  refine w_if_lt k151 rfl (fun c => ?_) (fun c => ?_)
  · replace h := if_t c h
    refine w_sg k151 2 (pc' := 26) (ls' := [(0, aR 0 0), (1, aI a1)]) (st' := [aI (-1 : Int32)]) (cs' := []) (fun _ => rfl) al0 ?_
    obtain rfl := Option.some.inj h
    exact w_ireturn k151 ⟨rfl, rfl⟩
  · replace h := if_f c h
    refine w_sg k151 3 (pc' := 9) (ls' := [(0, aR 0 0), (1, aI a1)]) (st' := [aI (gI Y.1 0 0 3), aI a1]) (cs' := []) (fun _ => rfl) al0 ?_
    refine w_icmp_lt k151 rfl (fun c => ?_) (fun c => ?_)
    · replace h := if_t c h
      obtain ⟨hc1, h⟩ := ck_some h
      refine w_sg k151 6 (pc' := 26) (ls' := [(0, aR 0 0), (1, aI a1)]) (st' := [aI ((gI Y.1 20 0 (ix a1)) &&& (nI 255))]) (cs' := [vp_in a1 64]) (fun _ => rfl) (al1 (vin hc1)) ?_
      obtain rfl := Option.some.inj h
      exact w_ireturn k151 ⟨rfl, rfl⟩
    · replace h := if_f c h
      refine w_sg k151 2 (pc' := 26) (ls' := [(0, aR 0 0), (1, aI a1)]) (st' := [aI (-1 : Int32)]) (cs' := []) (fun _ => rfl) al0 ?_
      obtain rfl := Option.some.inj h
      exact w_ireturn k151 ⟨rfl, rfl⟩
set_option maxRecDepth 20000 in
set_option maxHeartbeats 4000000 in
/-- BallotBus.saveState -/
theorem sn_152 {Y : Sm} (v : Int32) (Z : Sm) (h : fn_152 Y = some (v, Z)) : Mt 6 0 152 [aR 0 0] Y (Rt (some (aI v)) Z) nX := by
  refine Mt_of [(0, aR 0 0)] ?_
  generalize ho : (v, Z) = o at h
  have hv9 : v = o.1 := congrArg Prod.fst ho
  have hZ9 : Z = o.2 := congrArg Prod.snd ho
  clear ho
  subst hv9 hZ9
  unfold fn_152 at h
  refine w_sg k152 4 (pc' := 8) (ls' := [(0, aR 0 0)]) (st' := [aR 21 0, aR 21 2]) (cs' := []) (fun _ => rfl) al0 ?_
  obtain ⟨_, Y1, hv2, h⟩ := bd_some h
  refine w_cV0 k152 (sn_72 _ _ _ _ hv2) rfl (st := []) rfl ?_ (fun _ _ q => q.elim)
  refine w_sw k152 3 (Z := (sI Y1 0 0 11 (nI 1))) (pc' := 16) (ls' := [(0, aR 0 0)]) (st' := []) (cs' := [allw 0 0, (nI 1) = 0 ∨ (nI 1) = 1]) (fun _ => rfl) rfl (al2 rfl (al1 (Or.inr rfl))) ?_
  replace h := wr_some h
  generalize (sI Y1 0 0 11 (nI 1)) = Y3 at h ⊢
  refine w_sg k152 3 (pc' := 23) (ls' := [(0, aR 0 0)]) (st' := [aI (gI Y3.1 21 0 1)]) (cs' := []) (fun _ => rfl) al0 ?_
  obtain rfl := Option.some.inj h
  exact w_ireturn k152 ⟨rfl, rfl⟩
set_option maxRecDepth 20000 in
set_option maxHeartbeats 4000000 in
/-- BallotBus.restoreState -/
theorem sn_153 {Y : Sm} (v : (Int32 ⊕ Nat)) (Z : Sm) (h : fn_153 Y = some (v, Z)) : Mt 6 1 153 [aR 0 0] Y (Pz (fun v => some (aI v)) v Z) (Ez v Z) := by
  refine Mt_of [(0, aR 0 0)] ?_
  generalize ho : (v, Z) = o at h
  have hv9 : v = o.1 := congrArg Prod.fst ho
  have hZ9 : Z = o.2 := congrArg Prod.snd ho
  clear ho
  subst hv9 hZ9
  unfold fn_153 at h
  refine w_sg k153 2 (pc' := 4) (ls' := [(0, aR 0 0)]) (st' := [aI (gI Y.1 0 0 11)]) (cs' := []) (fun _ => rfl) al0 ?_
  refine w_if_ne k153 rfl (fun c => ?_) (fun c => ?_)
  · replace h := if_f c h
    refine w_sg k153 4 (pc' := 26) (ls' := [(0, aR 0 0)]) (st' := [aR 21 2, aR 21 0]) (cs' := []) (fun _ => rfl) al0 ?_
    obtain ⟨_, Y1, hv2, h⟩ := bd_some h
    refine w_cV0 k153 (sn_72 _ _ _ _ hv2) rfl (st := []) rfl ?_ (fun _ _ q => q.elim)
    refine w_sw k153 4 (Z := (sI Y1 37 0 2 (nI 0))) (pc' := 37) (ls' := [(0, aR 0 0)]) (st' := []) (cs' := [allw 37 0]) (fun _ => rfl) rfl (al1 rfl) ?_
    replace h := wr_some h
    generalize (sI Y1 37 0 2 (nI 0)) = Y3 at h ⊢
    refine w_sg k153 3 (pc' := 44) (ls' := [(0, aR 0 0)]) (st' := [aI (gI Y3.1 21 0 1)]) (cs' := []) (fun _ => rfl) al0 ?_
    obtain rfl := Option.some.inj h
    exact w_ireturn k153 Pz_l
  · replace h := if_t c h
    obtain rfl := Option.some.inj h
    exact w_throw k153 rfl rfl Ez_r
set_option maxRecDepth 20000 in
set_option maxHeartbeats 4000000 in
/-- BallotBusModel.thrown -/
theorem sn_163 {Y : Sm} (v : Int32) (Z : Sm) (h : fn_163 Y = some (v, Z)) : Mt 4 0 163 [aR 48 0] Y (Rt (some (aI v)) Z) nX := by
  refine Mt_of [(0, aR 48 0)] ?_
  generalize ho : (v, Z) = o at h
  have hv9 : v = o.1 := congrArg Prod.fst ho
  have hZ9 : Z = o.2 := congrArg Prod.snd ho
  clear ho
  subst hv9 hZ9
  unfold fn_163 at h
  refine w_sg k163 2 (pc' := 4) (ls' := [(0, aR 48 0)]) (st' := [aI (gI Y.1 48 0 0)]) (cs' := []) (fun _ => rfl) al0 ?_
  obtain rfl := Option.some.inj h
  exact w_ireturn k163 ⟨rfl, rfl⟩
set_option maxRecDepth 20000 in
set_option maxHeartbeats 4000000 in
/-- BallotBusModel.is -/
theorem sn_164 (a1 : Int32) {Y : Sm} (v : Int32) (Z : Sm) (h : fn_164 a1 Y = some (v, Z)) : Mt 4 0 164 [aR 48 0, aI a1] Y (Rt (some (aI v)) Z) nX := by
  refine Mt_of [(0, aR 48 0), (1, aI a1)] ?_
  generalize ho : (v, Z) = o at h
  have hv9 : v = o.1 := congrArg Prod.fst ho
  have hZ9 : Z = o.2 := congrArg Prod.snd ho
  clear ho
  subst hv9 hZ9
  unfold fn_164 at h
  refine w_sg k164 2 (pc' := 2) (ls' := [(0, aR 48 0), (1, aI a1)]) (st' := [aI a1, aR 48 0]) (cs' := []) (fun _ => rfl) al0 ?_
  refine w_if_eq k164 rfl (fun c => ?_) (fun c => ?_)
  · replace h := if_t c h
    refine w_sw k164 2 (Z := (sI Y 48 0 0 (nI 1))) (pc' := 13) (ls' := [(0, aR 48 0), (1, aI a1)]) (st' := []) (cs' := [allw 48 0]) (fun _ => rfl) rfl (al1 rfl) ?_
    replace h := wr_some h
    generalize (sI Y 48 0 0 (nI 1)) = Y1 at h ⊢
    obtain ⟨hc2, h⟩ := ck_some h
    refine w_sg k164 1 (pc' := 14) (ls' := [(0, aR 48 0), (1, aI a1)]) (st' := [aI a1]) (cs' := []) (fun _ => rfl) al0 ?_
    obtain rfl := Option.some.inj h
    exact w_zreturn k164 (bz_or hc2) ⟨rfl, rfl⟩
  · replace h := if_f c h
    refine w_sw k164 3 (Z := (sI Y 48 0 0 (nI 0))) (pc' := 13) (ls' := [(0, aR 48 0), (1, aI a1)]) (st' := []) (cs' := [allw 48 0]) (fun _ => rfl) rfl (al1 rfl) ?_
    replace h := wr_some h
    generalize (sI Y 48 0 0 (nI 0)) = Y3 at h ⊢
    obtain ⟨hc4, h⟩ := ck_some h
    refine w_sg k164 1 (pc' := 14) (ls' := [(0, aR 48 0), (1, aI a1)]) (st' := [aI a1]) (cs' := []) (fun _ => rfl) al0 ?_
    obtain rfl := Option.some.inj h
    exact w_zreturn k164 (bz_or hc4) ⟨rfl, rfl⟩
set_option maxRecDepth 20000 in
set_option maxHeartbeats 4000000 in
/-- BallotBusModel.undo -/
theorem sn_173 {Y : Sm} (v : Int32) (Z : Sm) (h : fn_173 Y = some (v, Z)) : Mt 5 0 173 [aR 48 0] Y (Rt (some (aI v)) Z) nX := by
  refine Mt_of [(0, aR 48 0)] ?_
  generalize ho : (v, Z) = o at h
  have hv9 : v = o.1 := congrArg Prod.fst ho
  have hZ9 : Z = o.2 := congrArg Prod.snd ho
  clear ho
  subst hv9 hZ9
  unfold fn_173 at h
  have L33_0 : ∀ (n : Nat) (l1 : Int32) (Y : Sm), lp (fun s => fn_173_L33 s.1 s.2) n (l1, Y) = some o → Wm 5 0 173 0 33 [(0, aR 48 0), (1, aI l1)] [] Y (Rt (some (aI o.1)) o.2) nX := by
    intro n
    induction n with
    | zero => intro l1 Y h; cases h
    | succ n ih7 =>
      intro l1 Y h
      obtain ⟨q5, h, hn6⟩ := lp_succ h
      replace h : fn_173_L33 l1 Y = some q5 := h
      unfold fn_173_L33 at h
      refine w_sg k173 2 (pc' := 37) (ls' := [(0, aR 48 0), (1, aI l1)]) (st' := [aI (nI 718), aI l1]) (cs' := []) (fun _ => rfl) al0 ?_
      refine w_icmp_ge k173 rfl (fun c => ?_) (fun c => ?_)
      · replace h := if_t c h
        refine w_sg k173 2 (pc' := 71) (ls' := [(0, aR 48 0), (1, aI l1)]) (st' := [aI (gI Y.1 48 0 17)]) (cs' := []) (fun _ => rfl) al0 ?_
        obtain rfl := Option.some.inj h
        obtain rfl := lpn_r hn6
        exact w_ireturn k173 ⟨rfl, rfl⟩
      · replace h := if_f c h
        refine w_sg k173 8 (pc' := 56) (ls' := [(0, aR 48 0), (1, aI l1)]) (st' := [aI (gI Y.1 48 0 17), aI (nI 718), aR 57 0, aI l1, aR 52 0]) (cs' := []) (fun _ => rfl) al0 ?_
        obtain ⟨hc8, h⟩ := ck_some h
        obtain ⟨hc9, h⟩ := ck_some h
        refine w_sw k173 5 (Z := (sI Y 52 0 (ix l1) (gI Y.1 57 0 (ix (((nI 718) * (gI Y.1 48 0 17)) + l1))))) (pc' := 61) (ls' := [(0, aR 48 0), (1, aI l1)]) (st' := []) (cs' := [vp_in (((nI 718) * (gI Y.1 48 0 17)) + l1) 5744, vp_in l1 718, allw 52 0]) (fun _ => rfl) rfl (al2 (vin hc8) (al2 (vin hc9) (al1 rfl))) ?_
        replace h := wr_some h
        generalize (sI Y 52 0 (ix l1) (gI Y.1 57 0 (ix (((nI 718) * (gI Y.1 48 0 17)) + l1)))) = Y10 at h ⊢
        refine w_sg k173 1 (pc' := 64) (ls' := [(0, aR 48 0), (1, aI (l1 + (nI 1)))]) (st' := []) (cs' := []) (fun _ => rfl) al0 ?_
        refine w_sg k173 1 (pc' := 33) (ls' := [(0, aR 48 0), (1, aI (l1 + (nI 1)))]) (st' := []) (cs' := []) (fun _ => rfl) al0 ?_
        refine w_ls [(0, aR 48 0), (1, aI (l1 + (nI 1)))] (lq_c rfl (lq_c rfl lq_n)) ?_
        obtain rfl := Option.some.inj h
        exact ih7 _ _ (lpn_l hn6)
  have J13_0 : ∀ (t0 : Int32) (Y : Sm), fn_173_J13 t0 Y = some o → Wm 5 0 173 0 13 [(0, aR 48 0)] [aI t0, aR 48 0] Y (Rt (some (aI o.1)) o.2) nX := by
    intro t0 Y h
    unfold fn_173_J13 at h
    obtain ⟨v3, Y1, hv2, h⟩ := bd_some h
    refine w_cV1 k173 (sn_164 _ _ _ hv2) rfl (st := []) rfl ?_ (fun _ _ q => q.elim)
    refine w_if_ne k173 rfl (fun c => ?_) (fun c => ?_)
    · replace h := if_f c h
      refine w_sw k173 6 (Z := (sI Y1 48 0 17 ((gI Y1.1 48 0 17) - (nI 1)))) (pc' := 31) (ls' := [(0, aR 48 0)]) (st' := []) (cs' := [allw 48 0]) (fun _ => rfl) rfl (al1 rfl) ?_
      replace h := wr_some h
      generalize (sI Y1 48 0 17 ((gI Y1.1 48 0 17) - (nI 1))) = Y4 at h ⊢
      refine w_sg k173 2 (pc' := 33) (ls' := [(0, aR 48 0), (1, aI (nI 0))]) (st' := []) (cs' := []) (fun _ => rfl) al0 ?_
      refine w_ls [(0, aR 48 0), (1, aI (nI 0))] (lq_c rfl (lq_c rfl lq_n)) ?_
      exact L33_0 _ _ _ h
    · replace h := if_t c h
      refine w_sg k173 1 (pc' := 20) (ls' := [(0, aR 48 0)]) (st' := [aI (nI 0)]) (cs' := []) (fun _ => rfl) al0 ?_
      obtain rfl := Option.some.inj h
      exact w_ireturn k173 ⟨rfl, rfl⟩
  refine w_sg k173 3 (pc' := 5) (ls' := [(0, aR 48 0)]) (st' := [aI (gI Y.1 48 0 17), aR 48 0]) (cs' := []) (fun _ => rfl) al0 ?_
  refine w_if_le k173 rfl (fun c => ?_) (fun c => ?_)
  · replace h := if_t c h
    refine w_sg k173 1 (pc' := 13) (ls' := [(0, aR 48 0)]) (st' := [aI (nI 0), aR 48 0]) (cs' := []) (fun _ => rfl) al0 ?_
    refine w_ls [(0, aR 48 0)] (lq_c rfl lq_n) ?_
    exact J13_0 _ _ h
  · replace h := if_f c h
    refine w_sg k173 2 (pc' := 13) (ls' := [(0, aR 48 0)]) (st' := [aI (nI 1), aR 48 0]) (cs' := []) (fun _ => rfl) al0 ?_
    refine w_ls [(0, aR 48 0)] (lq_c rfl lq_n) ?_
    exact J13_0 _ _ h
set_option maxRecDepth 20000 in
set_option maxHeartbeats 4000000 in
/-- BallotBusModel.copies -/
theorem sn_170_52_56 {Y : Sm} (v : Unit) (Z : Sm) (h : fn_170_52_56 Y = some (v, Z)) : Mt 4 0 170 [aR 52 0, aR 56 0] Y (Rt none Z) nX := by
  refine Mt_of [(0, aR 52 0), (1, aR 56 0)] ?_
  generalize ho : (v, Z) = o at h
  have hv9 : v = o.1 := congrArg Prod.fst ho
  have hZ9 : Z = o.2 := congrArg Prod.snd ho
  clear ho
  subst hv9 hZ9
  unfold fn_170_52_56 at h
  have L2_0 : ∀ (n : Nat) (l2 : Int32) (Y : Sm), lp (fun s => fn_170_52_56_L2 s.1 s.2) n (l2, Y) = some o → Wm 4 0 170 0 2 [(0, aR 52 0), (1, aR 56 0), (2, aI l2)] [] Y (Rt none o.2) nX := by
    intro n
    induction n with
    | zero => intro l2 Y h; cases h
    | succ n ih3 =>
      intro l2 Y h
      obtain ⟨q1, h, hn2⟩ := lp_succ h
      replace h : fn_170_52_56_L2 l2 Y = some q1 := h
      unfold fn_170_52_56_L2 at h
      refine w_sg k170 2 (pc' := 6) (ls' := [(0, aR 52 0), (1, aR 56 0), (2, aI l2)]) (st' := [aI (nI 718), aI l2]) (cs' := []) (fun _ => rfl) al0 ?_
      refine w_icmp_ge k170 rfl (fun c => ?_) (fun c => ?_)
      · replace h := if_t c h
        obtain rfl := Option.some.inj h
        obtain rfl := lpn_r hn2
        exact w_return k170 ⟨rfl, rfl⟩
      · replace h := if_f c h
        obtain ⟨hc4, h⟩ := ck_some h
        refine w_sw k170 6 (Z := (sI Y 56 0 (ix l2) (gI Y.1 52 0 (ix l2)))) (pc' := 15) (ls' := [(0, aR 52 0), (1, aR 56 0), (2, aI l2)]) (st' := []) (cs' := [vp_in l2 718, vp_in l2 718, allw 56 0]) (fun _ => rfl) rfl (al2 (vin hc4) (al2 (vin hc4) (al1 rfl))) ?_
        replace h := wr_some h
        generalize (sI Y 56 0 (ix l2) (gI Y.1 52 0 (ix l2))) = Y5 at h ⊢
        refine w_sg k170 1 (pc' := 18) (ls' := [(0, aR 52 0), (1, aR 56 0), (2, aI (l2 + (nI 1)))]) (st' := []) (cs' := []) (fun _ => rfl) al0 ?_
        refine w_sg k170 1 (pc' := 2) (ls' := [(0, aR 52 0), (1, aR 56 0), (2, aI (l2 + (nI 1)))]) (st' := []) (cs' := []) (fun _ => rfl) al0 ?_
        refine w_ls [(0, aR 52 0), (1, aR 56 0), (2, aI (l2 + (nI 1)))] (lq_c rfl (lq_c rfl (lq_c rfl lq_n))) ?_
        obtain rfl := Option.some.inj h
        exact ih3 _ _ (lpn_l hn2)
  refine w_sg k170 2 (pc' := 2) (ls' := [(0, aR 52 0), (1, aR 56 0), (2, aI (nI 0))]) (st' := []) (cs' := []) (fun _ => rfl) al0 ?_
  refine w_ls [(0, aR 52 0), (1, aR 56 0), (2, aI (nI 0))] (lq_c rfl (lq_c rfl (lq_c rfl lq_n))) ?_
  exact L2_0 _ _ _ h
set_option maxRecDepth 20000 in
set_option maxHeartbeats 4000000 in
/-- BallotBusModel.saveState -/
theorem sn_174 {Y : Sm} (v : Int32) (Z : Sm) (h : fn_174 Y = some (v, Z)) : Mt 5 0 174 [aR 48 0] Y (Rt (some (aI v)) Z) nX := by
  refine Mt_of [(0, aR 48 0)] ?_
  generalize ho : (v, Z) = o at h
  have hv9 : v = o.1 := congrArg Prod.fst ho
  have hZ9 : Z = o.2 := congrArg Prod.snd ho
  clear ho
  subst hv9 hZ9
  unfold fn_174 at h
  refine w_sw k174 3 (Z := (sI Y 48 0 0 (nI 0))) (pc' := 5) (ls' := [(0, aR 48 0)]) (st' := []) (cs' := [allw 48 0]) (fun _ => rfl) rfl (al1 rfl) ?_
  replace h := wr_some h
  generalize (sI Y 48 0 0 (nI 0)) = Y1 at h ⊢
  refine w_sg k174 4 (pc' := 13) (ls' := [(0, aR 48 0)]) (st' := [aR 56 0, aR 52 0]) (cs' := []) (fun _ => rfl) al0 ?_
  obtain ⟨_, Y2, hv3, h⟩ := bd_some h
  refine w_cS0 k174 (sn_170_52_56  _ _ hv3) rfl (st := []) rfl ?_ (fun _ _ q => q.elim)
  refine w_sw k174 3 (Z := (sI Y2 48 0 18 (nI 1))) (pc' := 21) (ls' := [(0, aR 48 0)]) (st' := []) (cs' := [allw 48 0, (nI 1) = 0 ∨ (nI 1) = 1]) (fun _ => rfl) rfl (al2 rfl (al1 (Or.inr rfl))) ?_
  replace h := wr_some h
  generalize (sI Y2 48 0 18 (nI 1)) = Y4 at h ⊢
  refine w_sg k174 4 (pc' := 27) (ls' := [(0, aR 48 0)]) (st' := [aI (gI Y4.1 52 0 0)]) (cs' := [vp_in (nI 0) 718]) (fun _ => rfl) (al1 (vin rfl)) ?_
  obtain rfl := Option.some.inj h
  exact w_ireturn k174 ⟨rfl, rfl⟩
set_option maxRecDepth 20000 in
set_option maxHeartbeats 4000000 in
/-- BallotBusModel.copies -/
theorem sn_170_56_52 {Y : Sm} (v : Unit) (Z : Sm) (h : fn_170_56_52 Y = some (v, Z)) : Mt 4 0 170 [aR 56 0, aR 52 0] Y (Rt none Z) nX := by
  refine Mt_of [(0, aR 56 0), (1, aR 52 0)] ?_
  generalize ho : (v, Z) = o at h
  have hv9 : v = o.1 := congrArg Prod.fst ho
  have hZ9 : Z = o.2 := congrArg Prod.snd ho
  clear ho
  subst hv9 hZ9
  unfold fn_170_56_52 at h
  have L2_0 : ∀ (n : Nat) (l2 : Int32) (Y : Sm), lp (fun s => fn_170_56_52_L2 s.1 s.2) n (l2, Y) = some o → Wm 4 0 170 0 2 [(0, aR 56 0), (1, aR 52 0), (2, aI l2)] [] Y (Rt none o.2) nX := by
    intro n
    induction n with
    | zero => intro l2 Y h; cases h
    | succ n ih3 =>
      intro l2 Y h
      obtain ⟨q1, h, hn2⟩ := lp_succ h
      replace h : fn_170_56_52_L2 l2 Y = some q1 := h
      unfold fn_170_56_52_L2 at h
      refine w_sg k170 2 (pc' := 6) (ls' := [(0, aR 56 0), (1, aR 52 0), (2, aI l2)]) (st' := [aI (nI 718), aI l2]) (cs' := []) (fun _ => rfl) al0 ?_
      refine w_icmp_ge k170 rfl (fun c => ?_) (fun c => ?_)
      · replace h := if_t c h
        obtain rfl := Option.some.inj h
        obtain rfl := lpn_r hn2
        exact w_return k170 ⟨rfl, rfl⟩
      · replace h := if_f c h
        obtain ⟨hc4, h⟩ := ck_some h
        refine w_sw k170 6 (Z := (sI Y 52 0 (ix l2) (gI Y.1 56 0 (ix l2)))) (pc' := 15) (ls' := [(0, aR 56 0), (1, aR 52 0), (2, aI l2)]) (st' := []) (cs' := [vp_in l2 718, vp_in l2 718, allw 52 0]) (fun _ => rfl) rfl (al2 (vin hc4) (al2 (vin hc4) (al1 rfl))) ?_
        replace h := wr_some h
        generalize (sI Y 52 0 (ix l2) (gI Y.1 56 0 (ix l2))) = Y5 at h ⊢
        refine w_sg k170 1 (pc' := 18) (ls' := [(0, aR 56 0), (1, aR 52 0), (2, aI (l2 + (nI 1)))]) (st' := []) (cs' := []) (fun _ => rfl) al0 ?_
        refine w_sg k170 1 (pc' := 2) (ls' := [(0, aR 56 0), (1, aR 52 0), (2, aI (l2 + (nI 1)))]) (st' := []) (cs' := []) (fun _ => rfl) al0 ?_
        refine w_ls [(0, aR 56 0), (1, aR 52 0), (2, aI (l2 + (nI 1)))] (lq_c rfl (lq_c rfl (lq_c rfl lq_n))) ?_
        obtain rfl := Option.some.inj h
        exact ih3 _ _ (lpn_l hn2)
  refine w_sg k170 2 (pc' := 2) (ls' := [(0, aR 56 0), (1, aR 52 0), (2, aI (nI 0))]) (st' := []) (cs' := []) (fun _ => rfl) al0 ?_
  refine w_ls [(0, aR 56 0), (1, aR 52 0), (2, aI (nI 0))] (lq_c rfl (lq_c rfl (lq_c rfl lq_n))) ?_
  exact L2_0 _ _ _ h
set_option maxRecDepth 20000 in
set_option maxHeartbeats 4000000 in
/-- BallotBusModel.restoreState -/
theorem sn_175 {Y : Sm} (v : Int32) (Z : Sm) (h : fn_175 Y = some (v, Z)) : Mt 5 0 175 [aR 48 0] Y (Rt (some (aI v)) Z) nX := by
  refine Mt_of [(0, aR 48 0)] ?_
  generalize ho : (v, Z) = o at h
  have hv9 : v = o.1 := congrArg Prod.fst ho
  have hZ9 : Z = o.2 := congrArg Prod.snd ho
  clear ho
  subst hv9 hZ9
  unfold fn_175 at h
  refine w_sg k175 3 (pc' := 5) (ls' := [(0, aR 48 0)]) (st' := [aI (gI Y.1 48 0 18), aR 48 0]) (cs' := []) (fun _ => rfl) al0 ?_
  obtain ⟨v3, Y1, hv2, h⟩ := bd_some h
  refine w_cV1 k175 (sn_164 _ _ _ hv2) rfl (st := []) rfl ?_ (fun _ _ q => q.elim)
  refine w_if_ne k175 rfl (fun c => ?_) (fun c => ?_)
  · replace h := if_f c h
    refine w_sg k175 4 (pc' := 21) (ls' := [(0, aR 48 0)]) (st' := [aR 52 0, aR 56 0]) (cs' := []) (fun _ => rfl) al0 ?_
    obtain ⟨_, Y4, hv5, h⟩ := bd_some h
    refine w_cS0 k175 (sn_170_56_52  _ _ hv5) rfl (st := []) rfl ?_ (fun _ _ q => q.elim)
    refine w_sw k175 3 (Z := (sI Y4 48 0 17 (nI 0))) (pc' := 29) (ls' := [(0, aR 48 0)]) (st' := []) (cs' := [allw 48 0]) (fun _ => rfl) rfl (al1 rfl) ?_
    replace h := wr_some h
    generalize (sI Y4 48 0 17 (nI 0)) = Y6 at h ⊢
    refine w_sg k175 4 (pc' := 35) (ls' := [(0, aR 48 0)]) (st' := [aI (gI Y6.1 52 0 0)]) (cs' := [vp_in (nI 0) 718]) (fun _ => rfl) (al1 (vin rfl)) ?_
    obtain rfl := Option.some.inj h
    exact w_ireturn k175 ⟨rfl, rfl⟩
  · replace h := if_t c h
    refine w_sg k175 1 (pc' := 12) (ls' := [(0, aR 48 0)]) (st' := [aI (nI 0)]) (cs' := []) (fun _ => rfl) al0 ?_
    obtain rfl := Option.some.inj h
    exact w_ireturn k175 ⟨rfl, rfl⟩
set_option maxRecDepth 20000 in
set_option maxHeartbeats 4000000 in
/-- BallotBusModel.isIn -/
theorem sn_166 (a0 : Int64) (a1 : Int64) (a2 : Int64) {Y : Sm} (v : Int32) (Z : Sm) (h : fn_166 a0 a1 a2 Y = some (v, Z)) : Mt 4 0 166 [aJ a0, aJ a1, aJ a2] Y (Rt (some (aI v)) Z) nX := by
  refine Mt_of [(0, aJ a0), (2, aJ a1), (4, aJ a2)] ?_
  generalize ho : (v, Z) = o at h
  have hv9 : v = o.1 := congrArg Prod.fst ho
  have hZ9 : Z = o.2 := congrArg Prod.snd ho
  clear ho
  subst hv9 hZ9
  unfold fn_166 at h
  refine w_sg k166 3 (pc' := 3) (ls' := [(0, aJ a0), (2, aJ a1), (4, aJ a2)]) (st' := [aI (lg_cmp a0 a1)]) (cs' := []) (fun _ => rfl) al0 ?_
  refine w_if_lt k166 rfl (fun c => ?_) (fun c => ?_)
  · replace h := if_t c h
    refine w_sg k166 1 (pc' := 18) (ls' := [(0, aJ a0), (2, aJ a1), (4, aJ a2)]) (st' := [aI (nI 0)]) (cs' := []) (fun _ => rfl) al0 ?_
    obtain rfl := Option.some.inj h
    exact w_zreturn k166 (Or.inl rfl) ⟨rfl, rfl⟩
  · replace h := if_f c h
    refine w_sg k166 3 (pc' := 10) (ls' := [(0, aJ a0), (2, aJ a1), (4, aJ a2)]) (st' := [aI (lg_cmp a0 a2)]) (cs' := []) (fun _ => rfl) al0 ?_
    refine w_if_gt k166 rfl (fun c => ?_) (fun c => ?_)
    · replace h := if_t c h
      refine w_sg k166 1 (pc' := 18) (ls' := [(0, aJ a0), (2, aJ a1), (4, aJ a2)]) (st' := [aI (nI 0)]) (cs' := []) (fun _ => rfl) al0 ?_
      obtain rfl := Option.some.inj h
      exact w_zreturn k166 (Or.inl rfl) ⟨rfl, rfl⟩
    · replace h := if_f c h
      refine w_sg k166 2 (pc' := 18) (ls' := [(0, aJ a0), (2, aJ a1), (4, aJ a2)]) (st' := [aI (nI 1)]) (cs' := []) (fun _ => rfl) al0 ?_
      obtain rfl := Option.some.inj h
      exact w_zreturn k166 (Or.inr rfl) ⟨rfl, rfl⟩
set_option maxRecDepth 20000 in
set_option maxHeartbeats 4000000 in
/-- BallotBusModel.areTicks -/
theorem sn_210 (a0 : Int32) {Y : Sm} (v : Int32) (Z : Sm) (h : fn_210 a0 Y = some (v, Z)) : Mt 5 0 210 [aI a0] Y (Rt (some (aI v)) Z) nX := by
  refine Mt_of [(0, aI a0)] ?_
  generalize ho : (v, Z) = o at h
  have hv9 : v = o.1 := congrArg Prod.fst ho
  have hZ9 : Z = o.2 := congrArg Prod.snd ho
  clear ho
  subst hv9 hZ9
  unfold fn_210 at h
  refine w_sg k210 4 (pc' := 6) (ls' := [(0, aI a0)]) (st' := [aJ (((nI 500)).toInt64), aJ (Int64.ofNat 1), aJ ((a0).toInt64)]) (cs' := []) (fun _ => rfl) al0 ?_
  obtain ⟨v3, Y1, hv2, h⟩ := bd_some h
  refine w_cS1 k210 (sn_166 _ _ _ _ _ hv2) rfl (st := []) rfl ?_ (fun _ _ q => q.elim)
  obtain ⟨hc4, h⟩ := ck_some h
  obtain rfl := Option.some.inj h
  exact w_zreturn k210 (bz_or hc4) ⟨rfl, rfl⟩
set_option maxRecDepth 20000 in
set_option maxHeartbeats 4000000 in
/-- BallotBusModel.copies -/
theorem sn_170_52_54 {Y : Sm} (v : Unit) (Z : Sm) (h : fn_170_52_54 Y = some (v, Z)) : Mt 4 0 170 [aR 52 0, aR 54 0] Y (Rt none Z) nX := by
  refine Mt_of [(0, aR 52 0), (1, aR 54 0)] ?_
  generalize ho : (v, Z) = o at h
  have hv9 : v = o.1 := congrArg Prod.fst ho
  have hZ9 : Z = o.2 := congrArg Prod.snd ho
  clear ho
  subst hv9 hZ9
  unfold fn_170_52_54 at h
  have L2_0 : ∀ (n : Nat) (l2 : Int32) (Y : Sm), lp (fun s => fn_170_52_54_L2 s.1 s.2) n (l2, Y) = some o → Wm 4 0 170 0 2 [(0, aR 52 0), (1, aR 54 0), (2, aI l2)] [] Y (Rt none o.2) nX := by
    intro n
    induction n with
    | zero => intro l2 Y h; cases h
    | succ n ih3 =>
      intro l2 Y h
      obtain ⟨q1, h, hn2⟩ := lp_succ h
      replace h : fn_170_52_54_L2 l2 Y = some q1 := h
      unfold fn_170_52_54_L2 at h
      refine w_sg k170 2 (pc' := 6) (ls' := [(0, aR 52 0), (1, aR 54 0), (2, aI l2)]) (st' := [aI (nI 718), aI l2]) (cs' := []) (fun _ => rfl) al0 ?_
      refine w_icmp_ge k170 rfl (fun c => ?_) (fun c => ?_)
      · replace h := if_t c h
        obtain rfl := Option.some.inj h
        obtain rfl := lpn_r hn2
        exact w_return k170 ⟨rfl, rfl⟩
      · replace h := if_f c h
        obtain ⟨hc4, h⟩ := ck_some h
        refine w_sw k170 6 (Z := (sI Y 54 0 (ix l2) (gI Y.1 52 0 (ix l2)))) (pc' := 15) (ls' := [(0, aR 52 0), (1, aR 54 0), (2, aI l2)]) (st' := []) (cs' := [vp_in l2 718, vp_in l2 718, allw 54 0]) (fun _ => rfl) rfl (al2 (vin hc4) (al2 (vin hc4) (al1 rfl))) ?_
        replace h := wr_some h
        generalize (sI Y 54 0 (ix l2) (gI Y.1 52 0 (ix l2))) = Y5 at h ⊢
        refine w_sg k170 1 (pc' := 18) (ls' := [(0, aR 52 0), (1, aR 54 0), (2, aI (l2 + (nI 1)))]) (st' := []) (cs' := []) (fun _ => rfl) al0 ?_
        refine w_sg k170 1 (pc' := 2) (ls' := [(0, aR 52 0), (1, aR 54 0), (2, aI (l2 + (nI 1)))]) (st' := []) (cs' := []) (fun _ => rfl) al0 ?_
        refine w_ls [(0, aR 52 0), (1, aR 54 0), (2, aI (l2 + (nI 1)))] (lq_c rfl (lq_c rfl (lq_c rfl lq_n))) ?_
        obtain rfl := Option.some.inj h
        exact ih3 _ _ (lpn_l hn2)
  refine w_sg k170 2 (pc' := 2) (ls' := [(0, aR 52 0), (1, aR 54 0), (2, aI (nI 0))]) (st' := []) (cs' := []) (fun _ => rfl) al0 ?_
  refine w_ls [(0, aR 52 0), (1, aR 54 0), (2, aI (nI 0))] (lq_c rfl (lq_c rfl (lq_c rfl lq_n))) ?_
  exact L2_0 _ _ _ h
set_option maxRecDepth 20000 in
set_option maxHeartbeats 4000000 in
/-- BallotBusModel.starts -/
theorem sn_171 {Y : Sm} (v : Unit) (Z : Sm) (h : fn_171 Y = some (v, Z)) : Mt 5 0 171 [aR 48 0] Y (Rt none Z) nX := by
  refine Mt_of [(0, aR 48 0)] ?_
  generalize ho : (v, Z) = o at h
  have hv9 : v = o.1 := congrArg Prod.fst ho
  have hZ9 : Z = o.2 := congrArg Prod.snd ho
  clear ho
  subst hv9 hZ9
  unfold fn_171 at h
  refine w_sg k171 4 (pc' := 8) (ls' := [(0, aR 48 0)]) (st' := [aR 54 0, aR 52 0]) (cs' := []) (fun _ => rfl) al0 ?_
  obtain ⟨_, Y1, hv2, h⟩ := bd_some h
  refine w_cS0 k171 (sn_170_52_54  _ _ hv2) rfl (st := []) rfl ?_ (fun _ _ q => q.elim)
  obtain rfl := Option.some.inj h
  exact w_return k171 ⟨rfl, rfl⟩
set_option maxRecDepth 20000 in
set_option maxHeartbeats 4000000 in
/-- BallotBusModel.answeredOf -/
theorem sn_206 (a1 : Int32) {Y : Sm} (v : Int32) (Z : Sm) (h : fn_206 a1 Y = some (v, Z)) : Mt 4 0 206 [aR 48 0, aI a1] Y (Rt (some (aI v)) Z) nX := by
  refine Mt_of [(0, aR 48 0), (1, aI a1)] ?_
  generalize ho : (v, Z) = o at h
  have hv9 : v = o.1 := congrArg Prod.fst ho
  have hZ9 : Z = o.2 := congrArg Prod.snd ho
  clear ho
  subst hv9 hZ9
  unfold fn_206 at h
  refine w_sg k206 2 (pc' := 2) (ls' := [(0, aR 48 0), (1, aI a1)]) (st' := [aI (-1 : Int32), aI a1]) (cs' := []) (fun _ => rfl) al0 ?_
  refine w_icmp_ne k206 rfl (fun c => ?_) (fun c => ?_)
  · replace h := if_f c h
    obtain ⟨hc1, h⟩ := ck_some h
    refine w_sg k206 6 (pc' := 24) (ls' := [(0, aR 48 0), (1, aI a1)]) (st' := [aI (gI Y.1 52 0 (ix ((nI 52) + a1)))]) (cs' := [vp_in ((nI 52) + a1) 718]) (fun _ => rfl) (al1 (vin hc1)) ?_
    obtain rfl := Option.some.inj h
    exact w_ireturn k206 ⟨rfl, rfl⟩
  · replace h := if_t c h
    refine w_sg k206 5 (pc' := 24) (ls' := [(0, aR 48 0), (1, aI a1)]) (st' := [aI (gI Y.1 52 0 7)]) (cs' := [vp_in (nI 7) 718]) (fun _ => rfl) (al1 (vin rfl)) ?_
    obtain rfl := Option.some.inj h
    exact w_ireturn k206 ⟨rfl, rfl⟩
set_option maxRecDepth 20000 in
set_option maxHeartbeats 4000000 in
/-- BallotBusModel.of -/
theorem sn_178 (a1 : Int32) (a2 : Int32) {Y : Sm} (v : Int32) (Z : Sm) (h : fn_178 a1 a2 Y = some (v, Z)) : Mt 4 0 178 [aR 48 0, aI a1, aI a2] Y (Rt (some (aI v)) Z) nX := by
  refine Mt_of [(0, aR 48 0), (1, aI a1), (2, aI a2)] ?_
  generalize ho : (v, Z) = o at h
  have hv9 : v = o.1 := congrArg Prod.fst ho
  have hZ9 : Z = o.2 := congrArg Prod.snd ho
  clear ho
  subst hv9 hZ9
  unfold fn_178 at h
  refine w_sg k178 8 (pc' := 12) (ls' := [(0, aR 48 0), (1, aI a1), (2, aI a2)]) (st' := [aI a2, aI ((nI 118) + ((nI 6) * a1)), aR 52 0]) (cs' := []) (fun _ => rfl) al0 ?_
  obtain ⟨hc1, h⟩ := ck_some h
  refine w_sg k178 2 (pc' := 14) (ls' := [(0, aR 48 0), (1, aI a1), (2, aI a2)]) (st' := [aI (gI Y.1 52 0 (ix (((nI 118) + ((nI 6) * a1)) + a2)))]) (cs' := [vp_in (((nI 118) + ((nI 6) * a1)) + a2) 718]) (fun _ => rfl) (al1 (vin hc1)) ?_
  obtain rfl := Option.some.inj h
  exact w_ireturn k178 ⟨rfl, rfl⟩
set_option maxRecDepth 20000 in
set_option maxHeartbeats 4000000 in
/-- BallotBusModel.indexOf -/
theorem sn_179 (a1 : Int32) {Y : Sm} (v : Int32) (Z : Sm) (h : fn_179 a1 Y = some (v, Z)) : Mt 5 0 179 [aR 48 0, aI a1] Y (Rt (some (aI v)) Z) nX := by
  refine Mt_of [(0, aR 48 0), (1, aI a1)] ?_
  generalize ho : (v, Z) = o at h
  have hv9 : v = o.1 := congrArg Prod.fst ho
  have hZ9 : Z = o.2 := congrArg Prod.snd ho
  clear ho
  subst hv9 hZ9
  unfold fn_179 at h
  have L2_0 : ∀ (l1 : Int32) (n : Nat) (l2 : Int32) (Y : Sm), lp (fun s => fn_179_L2 l1 s.1 s.2) n (l2, Y) = some o → Wm 5 0 179 0 2 [(0, aR 48 0), (1, aI l1), (2, aI l2)] [] Y (Rt (some (aI o.1)) o.2) nX := by
    intro l1 n
    induction n with
    | zero => intro l2 Y h; cases h
    | succ n ih3 =>
      intro l2 Y h
      obtain ⟨q1, h, hn2⟩ := lp_succ h
      replace h : fn_179_L2 l1 l2 Y = some q1 := h
      unfold fn_179_L2 at h
      refine w_sg k179 5 (pc' := 10) (ls' := [(0, aR 48 0), (1, aI l1), (2, aI l2)]) (st' := [aI (gI Y.1 52 0 9), aI l2]) (cs' := [vp_in (nI 9) 718]) (fun _ => rfl) (al1 (vin rfl)) ?_
      refine w_icmp_ge k179 rfl (fun c => ?_) (fun c => ?_)
      · replace h := if_t c h
        refine w_sg k179 1 (pc' := 32) (ls' := [(0, aR 48 0), (1, aI l1), (2, aI l2)]) (st' := [aI (-1 : Int32)]) (cs' := []) (fun _ => rfl) al0 ?_
        obtain rfl := Option.some.inj h
        obtain rfl := lpn_r hn2
        exact w_ireturn k179 ⟨rfl, rfl⟩
      · replace h := if_f c h
        refine w_sg k179 3 (pc' := 16) (ls' := [(0, aR 48 0), (1, aI l1), (2, aI l2)]) (st' := [aI (nI 0), aI l2, aR 48 0]) (cs' := []) (fun _ => rfl) al0 ?_
        obtain ⟨v6, Y4, hv5, h⟩ := bd_some h
        refine w_cV1 k179 (sn_178 _ _ _ _ hv5) rfl (st := []) rfl ?_ (fun _ _ q => q.elim)
        refine w_sg k179 1 (pc' := 20) (ls' := [(0, aR 48 0), (1, aI l1), (2, aI l2)]) (st' := [aI l1, aI v6]) (cs' := []) (fun _ => rfl) al0 ?_
        refine w_icmp_ne k179 rfl (fun c => ?_) (fun c => ?_)
        · replace h := if_f c h
          refine w_sg k179 1 (pc' := 28) (ls' := [(0, aR 48 0), (1, aI l1), (2, aI (l2 + (nI 1)))]) (st' := []) (cs' := []) (fun _ => rfl) al0 ?_
          refine w_sg k179 1 (pc' := 2) (ls' := [(0, aR 48 0), (1, aI l1), (2, aI (l2 + (nI 1)))]) (st' := []) (cs' := []) (fun _ => rfl) al0 ?_
          refine w_ls [(0, aR 48 0), (1, aI l1), (2, aI (l2 + (nI 1)))] (lq_c rfl (lq_c rfl (lq_c rfl lq_n))) ?_
          obtain rfl := Option.some.inj h
          exact ih3 _ _ (lpn_l hn2)
        · replace h := if_t c h
          refine w_sg k179 1 (pc' := 24) (ls' := [(0, aR 48 0), (1, aI l1), (2, aI l2)]) (st' := [aI l2]) (cs' := []) (fun _ => rfl) al0 ?_
          obtain rfl := Option.some.inj h
          obtain rfl := lpn_r hn2
          exact w_ireturn k179 ⟨rfl, rfl⟩
  refine w_sg k179 2 (pc' := 2) (ls' := [(0, aR 48 0), (1, aI a1), (2, aI (nI 0))]) (st' := []) (cs' := []) (fun _ => rfl) al0 ?_
  refine w_ls [(0, aR 48 0), (1, aI a1), (2, aI (nI 0))] (lq_c rfl (lq_c rfl (lq_c rfl lq_n))) ?_
  exact L2_0 _ _ _ _ h
set_option maxRecDepth 20000 in
set_option maxHeartbeats 4000000 in
/-- BallotBusModel.lesser -/
theorem sn_168 (a0 : Int32) (a1 : Int32) {Y : Sm} (v : Int32) (Z : Sm) (h : fn_168 a0 a1 Y = some (v, Z)) : Mt 4 0 168 [aI a0, aI a1] Y (Rt (some (aI v)) Z) nX := by
  refine Mt_of [(0, aI a0), (1, aI a1)] ?_
  generalize ho : (v, Z) = o at h
  have hv9 : v = o.1 := congrArg Prod.fst ho
  have hZ9 : Z = o.2 := congrArg Prod.snd ho
  clear ho
  subst hv9 hZ9
  unfold fn_168 at h
  refine w_sg k168 2 (pc' := 2) (ls' := [(0, aI a0), (1, aI a1)]) (st' := [aI a1, aI a0]) (cs' := []) (fun _ => rfl) al0 ?_
  refine w_icmp_ge k168 rfl (fun c => ?_) (fun c => ?_)
  · replace h := if_t c h
    refine w_sg k168 1 (pc' := 10) (ls' := [(0, aI a0), (1, aI a1)]) (st' := [aI a1]) (cs' := []) (fun _ => rfl) al0 ?_
    obtain rfl := Option.some.inj h
    exact w_ireturn k168 ⟨rfl, rfl⟩
  · replace h := if_f c h
    refine w_sg k168 2 (pc' := 10) (ls' := [(0, aI a0), (1, aI a1)]) (st' := [aI a0]) (cs' := []) (fun _ => rfl) al0 ?_
    obtain rfl := Option.some.inj h
    exact w_ireturn k168 ⟨rfl, rfl⟩
set_option maxRecDepth 20000 in
set_option maxHeartbeats 4000000 in
/-- BallotBusModel.takesOut -/
theorem sn_182 (a1 : Int32) {Y : Sm} (v : Unit) (Z : Sm) (h : fn_182 a1 Y = some (v, Z)) : Mt 4 0 182 [aR 48 0, aI a1] Y (Rt none Z) nX := by
  refine Mt_of [(0, aR 48 0), (1, aI a1)] ?_
  generalize ho : (v, Z) = o at h
  have hv9 : v = o.1 := congrArg Prod.fst ho
  have hZ9 : Z = o.2 := congrArg Prod.snd ho
  clear ho
  subst hv9 hZ9
  unfold fn_182 at h
  have L24_0 : ∀ (n : Nat) (l2 : Int32) (Y : Sm), lp (fun s => fn_182_L24 s.1 s.2) n (l2, Y) = some o → Wm 4 0 182 0 24 [(0, aR 48 0), (2, aI l2)] [] Y (Rt none o.2) nX := by
    intro n
    induction n with
    | zero => intro l2 Y h; cases h
    | succ n ih4 =>
      intro l2 Y h
      obtain ⟨q2, h, hn3⟩ := lp_succ h
      replace h : fn_182_L24 l2 Y = some q2 := h
      unfold fn_182_L24 at h
      refine w_sg k182 8 (pc' := 37) (ls' := [(0, aR 48 0), (2, aI l2)]) (st' := [aI ((nI 6) * (gI Y.1 52 0 9)), aI (nI 118), aI l2]) (cs' := [vp_in (nI 9) 718]) (fun _ => rfl) (al1 (vin rfl)) ?_
      refine w_sg k182 1 (pc' := 38) (ls' := [(0, aR 48 0), (2, aI l2)]) (st' := [aI ((nI 118) + ((nI 6) * (gI Y.1 52 0 9))), aI l2]) (cs' := []) (fun _ => rfl) al0 ?_
      refine w_icmp_ge k182 rfl (fun c => ?_) (fun c => ?_)
      · replace h := if_t c h
        obtain rfl := Option.some.inj h
        obtain rfl := lpn_r hn3
        exact w_return k182 ⟨rfl, rfl⟩
      · replace h := if_f c h
        refine w_sg k182 8 (pc' := 54) (ls' := [(0, aR 48 0), (2, aI l2)]) (st' := [aI (l2 + (nI 6)), aR 52 0, aI l2, aR 52 0]) (cs' := []) (fun _ => rfl) al0 ?_
        obtain ⟨hc5, h⟩ := ck_some h
        obtain ⟨hc6, h⟩ := ck_some h
        refine w_sw k182 2 (Z := (sI Y 52 0 (ix l2) (gI Y.1 52 0 (ix (l2 + (nI 6)))))) (pc' := 56) (ls' := [(0, aR 48 0), (2, aI l2)]) (st' := []) (cs' := [vp_in (l2 + (nI 6)) 718, vp_in l2 718, allw 52 0]) (fun _ => rfl) rfl (al2 (vin hc5) (al2 (vin hc6) (al1 rfl))) ?_
        replace h := wr_some h
        generalize (sI Y 52 0 (ix l2) (gI Y.1 52 0 (ix (l2 + (nI 6))))) = Y7 at h ⊢
        refine w_sg k182 1 (pc' := 59) (ls' := [(0, aR 48 0), (2, aI (l2 + (nI 1)))]) (st' := []) (cs' := []) (fun _ => rfl) al0 ?_
        refine w_sg k182 1 (pc' := 24) (ls' := [(0, aR 48 0), (2, aI (l2 + (nI 1)))]) (st' := []) (cs' := []) (fun _ => rfl) al0 ?_
        refine w_ls [(0, aR 48 0), (2, aI (l2 + (nI 1)))] (lq_c rfl (lq_c rfl lq_n)) ?_
        obtain rfl := Option.some.inj h
        exact ih4 _ _ (lpn_l hn3)
  refine w_sg k182 8 (pc' := 14) (ls' := [(0, aR 48 0), (1, aI a1)]) (st' := [aI (nI 1), aI (gI Y.1 52 0 9), aI (nI 9), aR 52 0]) (cs' := [vp_in (nI 9) 718]) (fun _ => rfl) (al1 (vin rfl)) ?_
  refine w_sw k182 2 (Z := (sI Y 52 0 9 ((gI Y.1 52 0 9) - (nI 1)))) (pc' := 16) (ls' := [(0, aR 48 0), (1, aI a1)]) (st' := []) (cs' := [vp_in (nI 9) 718, allw 52 0]) (fun _ => rfl) rfl (al2 (vin rfl) (al1 rfl)) ?_
  replace h := wr_some h
  generalize (sI Y 52 0 9 ((gI Y.1 52 0 9) - (nI 1))) = Y1 at h ⊢
  refine w_sg k182 6 (pc' := 24) (ls' := [(0, aR 48 0), (1, aI a1), (2, aI ((nI 118) + ((nI 6) * a1)))]) (st' := []) (cs' := []) (fun _ => rfl) al0 ?_
  refine w_ls [(0, aR 48 0), (2, aI ((nI 118) + ((nI 6) * a1)))] (lq_c rfl (lq_c rfl lq_n)) ?_
  exact L24_0 _ _ _ h
