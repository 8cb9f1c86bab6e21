/-! the code of the methods does what their functions say (printed by wip/whole/gen20.py) -/
set_option maxRecDepth 20000 in
set_option maxHeartbeats 4000000 in
/-- BallotBusModel.indexOf -/
theorem sn_282_64 (a1 : Int32) (a2 : Int64) {Y : Sm} (v : Int32) (Z : Sm) (h : fn_282_64 a1 a2 Y = some (v, Z)) : Mt 4 0 282 [aR 64 0, aI a1, aJ a2] Y (Rt (some (aI v)) Z) nX := by
  refine Mt_of [(0, aR 64 0), (1, aI a1), (2, aJ a2)] ?_
  generalize ho : (v, Z) = o at h
  have hv9 : v = o.1 := congrArg Prod.fst ho
  have hZ9 : Z = o.2 := congrArg Prod.snd ho
  clear ho
  subst hv9 hZ9
  unfold fn_282_64 at h
  have L3_0 : ∀ (l1 : Int32) (l2 : Int64) (n : Nat) (l4 : Int32) (Y : Sm), lp (fun s => fn_282_64_L3 l1 l2 s.1 s.2) n (l4, Y) = some o → Wm 4 0 282 0 3 [(0, aR 64 0), (1, aI l1), (2, aJ l2), (4, aI l4)] [] Y (Rt (some (aI o.1)) o.2) nX := by
    intro l1 l2 n
    induction n with
    | zero => intro l4 Y h; cases h
    | succ n ih3 =>
      intro l4 Y h
      obtain ⟨q1, h, hn2⟩ := lp_succ h
      replace h : fn_282_64_L3 l1 l2 l4 Y = some q1 := h
      unfold fn_282_64_L3 at h
      refine w_sg k282 2 (pc' := 6) (ls' := [(0, aR 64 0), (1, aI l1), (2, aJ l2), (4, aI l4)]) (st' := [aI l1, aI l4]) (cs' := []) (fun _ => rfl) al0 ?_
      refine w_icmp_ge k282 rfl (fun c => ?_) (fun c => ?_)
      · replace h := if_t c h
        refine w_sg k282 1 (pc' := 28) (ls' := [(0, aR 64 0), (1, aI l1), (2, aJ l2), (4, aI l4)]) (st' := [aI (-1 : Int32)]) (cs' := []) (fun _ => rfl) al0 ?_
        obtain rfl := Option.some.inj h
        obtain rfl := lpn_r hn2
        exact w_ireturn k282 ⟨rfl, rfl⟩
      · replace h := if_f c h
        obtain ⟨hc4, h⟩ := ck_some h
        refine w_sg k282 5 (pc' := 15) (ls' := [(0, aR 64 0), (1, aI l1), (2, aJ l2), (4, aI l4)]) (st' := [aI (lg_cmp (gJ Y.1 64 0 (ix l4)) l2)]) (cs' := [vp_in l4 8]) (fun _ => rfl) (al1 (vin hc4)) ?_
        refine w_if_ne k282 rfl (fun c => ?_) (fun c => ?_)
        · replace h := if_f c h
          refine w_sg k282 2 (pc' := 3) (ls' := [(0, aR 64 0), (1, aI l1), (2, aJ l2), (4, aI (l4 + (nI 1)))]) (st' := []) (cs' := []) (fun _ => rfl) al0 ?_
          refine w_ls [(0, aR 64 0), (1, aI l1), (2, aJ l2), (4, aI (l4 + (nI 1)))] (lq_c rfl (lq_c rfl (lq_c rfl (lq_c rfl lq_n)))) ?_
          obtain rfl := Option.some.inj h
          exact ih3 _ _ (lpn_l hn2)
        · replace h := if_t c h
          refine w_sg k282 1 (pc' := 20) (ls' := [(0, aR 64 0), (1, aI l1), (2, aJ l2), (4, aI l4)]) (st' := [aI l4]) (cs' := []) (fun _ => rfl) al0 ?_
          obtain rfl := Option.some.inj h
          obtain rfl := lpn_r hn2
          exact w_ireturn k282 ⟨rfl, rfl⟩
  refine w_sg k282 2 (pc' := 3) (ls' := [(0, aR 64 0), (1, aI a1), (2, aJ a2), (4, aI (nI 0))]) (st' := []) (cs' := []) (fun _ => rfl) al0 ?_
  refine w_ls [(0, aR 64 0), (1, aI a1), (2, aJ a2), (4, aI (nI 0))] (lq_c rfl (lq_c rfl (lq_c rfl (lq_c rfl lq_n)))) ?_
  exact L3_0 _ _ _ _ _ h
set_option maxRecDepth 20000 in
set_option maxHeartbeats 4000000 in
/-- BallotBusModel.known -/
theorem sn_284_48_64 (a2 : Int32) {Y : Sm} (v : Int32) (Z : Sm) (h : fn_284_48_64 a2 Y = some (v, Z)) : Mt 8 0 284 [aR 48 0, aR 64 0, aI a2] Y (Rt (some (aI v)) Z) nX := by
  refine Mt_of [(0, aR 48 0), (1, aR 64 0), (2, aI a2)] ?_
  generalize ho : (v, Z) = o at h
  have hv9 : v = o.1 := congrArg Prod.fst ho
  have hZ9 : Z = o.2 := congrArg Prod.snd ho
  clear ho
  subst hv9 hZ9
  unfold fn_284_48_64 at h
  refine w_sg k284 2 (pc' := 2) (ls' := [(0, aR 48 0), (1, aR 64 0), (2, aI a2)]) (st' := [aR 48 0, aR 48 0]) (cs' := []) (fun _ => rfl) al0 ?_
  obtain ⟨v3, Y1, hv2, h⟩ := bd_some h
  refine w_cV1 k284 (sn_280  _ _ hv2) rfl (st := [aR 48 0]) rfl ?_ (fun _ _ q => q.elim)
  refine w_sg k284 1 (pc' := 6) (ls' := [(0, aR 48 0), (1, aR 64 0), (2, aI a2)]) (st' := [aI (nI 1), aI v3, aR 48 0]) (cs' := []) (fun _ => rfl) al0 ?_
  obtain ⟨_, Y4, hv5, h⟩ := bd_some h
  refine w_cV0 k284 (sn_277 _ _ _ _ hv5) rfl (st := []) rfl ?_ (fun _ _ q => q.elim)
  refine w_sg k284 4 (pc' := 15) (ls' := [(0, aR 48 0), (1, aR 64 0), (2, aI a2)]) (st' := [aJ (gJ Y4.1 48 0 30), aI a2, aR 64 0]) (cs' := []) (fun _ => rfl) al0 ?_
  obtain ⟨v8, Y6, hv7, h⟩ := bd_some h
  refine w_cS1 k284 (sn_282_64 _ _ _ _ hv7) rfl (st := []) rfl ?_ (fun _ _ q => q.elim)
  refine w_sg k284 2 (pc' := 20) (ls' := [(0, aR 48 0), (1, aR 64 0), (2, aI a2), (3, aI v8)]) (st' := [aR 48 0]) (cs' := []) (fun _ => rfl) al0 ?_
  obtain ⟨v11, Y9, hv10, h⟩ := bd_some h
  refine w_cV1 k284 (sn_276  _ _ hv10) rfl (st := []) rfl ?_ (fun _ _ q => q.elim)
  refine w_if_eq k284 rfl (fun c => ?_) (fun c => ?_)
  · replace h := if_t c h
    refine w_sg k284 1 (pc' := 42) (ls' := [(0, aR 48 0), (1, aR 64 0), (2, aI a2), (3, aI v8)]) (st' := [aR 48 0]) (cs' := []) (fun _ => rfl) al0 ?_
    obtain ⟨_, Y12, hv13, h⟩ := bd_some h
    refine w_cV0 k284 (sn_278  _ _ hv13) rfl (st := []) rfl ?_ (fun _ _ q => q.elim)
    refine w_sg k284 1 (pc' := 46) (ls' := [(0, aR 48 0), (1, aR 64 0), (2, aI a2), (3, aI v8)]) (st' := [aI v8]) (cs' := []) (fun _ => rfl) al0 ?_
    obtain rfl := Option.some.inj h
    exact w_ireturn k284 ⟨rfl, rfl⟩
  · replace h := if_f c h
    refine w_sg k284 3 (pc' := 29) (ls' := [(0, aR 48 0), (1, aR 64 0), (2, aI a2), (3, aI v8)]) (st' := [aI (-1 : Int32), aI v8, aR 48 0]) (cs' := []) (fun _ => rfl) al0 ?_
    refine w_icmp_eq k284 rfl (fun c => ?_) (fun c => ?_)
    · replace h := if_t c h
      refine w_sg k284 2 (pc' := 38) (ls' := [(0, aR 48 0), (1, aR 64 0), (2, aI a2), (3, aI v8)]) (st' := [aI (nI 3), aI (nI 0), aR 48 0]) (cs' := []) (fun _ => rfl) al0 ?_
      obtain ⟨_, Y14, hv15, h⟩ := bd_some h
      refine w_cV0 k284 (sn_277 _ _ _ _ hv15) rfl (st := []) rfl ?_ (fun _ _ q => q.elim)
      refine w_sg k284 1 (pc' := 42) (ls' := [(0, aR 48 0), (1, aR 64 0), (2, aI a2), (3, aI v8)]) (st' := [aR 48 0]) (cs' := []) (fun _ => rfl) al0 ?_
      obtain ⟨_, Y16, hv17, h⟩ := bd_some h
      refine w_cV0 k284 (sn_278  _ _ hv17) rfl (st := []) rfl ?_ (fun _ _ q => q.elim)
      refine w_sg k284 1 (pc' := 46) (ls' := [(0, aR 48 0), (1, aR 64 0), (2, aI a2), (3, aI v8)]) (st' := [aI v8]) (cs' := []) (fun _ => rfl) al0 ?_
      obtain rfl := Option.some.inj h
      exact w_ireturn k284 ⟨rfl, rfl⟩
    · replace h := if_f c h
      refine w_sg k284 3 (pc' := 38) (ls' := [(0, aR 48 0), (1, aR 64 0), (2, aI a2), (3, aI v8)]) (st' := [aI (nI 3), aI (nI 1), aR 48 0]) (cs' := []) (fun _ => rfl) al0 ?_
      obtain ⟨_, Y18, hv19, h⟩ := bd_some h
      refine w_cV0 k284 (sn_277 _ _ _ _ hv19) rfl (st := []) rfl ?_ (fun _ _ q => q.elim)
      refine w_sg k284 1 (pc' := 42) (ls' := [(0, aR 48 0), (1, aR 64 0), (2, aI a2), (3, aI v8)]) (st' := [aR 48 0]) (cs' := []) (fun _ => rfl) al0 ?_
      obtain ⟨_, Y20, hv21, h⟩ := bd_some h
      refine w_cV0 k284 (sn_278  _ _ hv21) rfl (st := []) rfl ?_ (fun _ _ q => q.elim)
      refine w_sg k284 1 (pc' := 46) (ls' := [(0, aR 48 0), (1, aR 64 0), (2, aI a2), (3, aI v8)]) (st' := [aI v8]) (cs' := []) (fun _ => rfl) al0 ?_
      obtain rfl := Option.some.inj h
      exact w_ireturn k284 ⟨rfl, rfl⟩
set_option maxRecDepth 20000 in
set_option maxHeartbeats 4000000 in
/-- BallotBusModel.indexOf -/
theorem sn_282_63 (a1 : Int32) (a2 : Int64) {Y : Sm} (v : Int32) (Z : Sm) (h : fn_282_63 a1 a2 Y = some (v, Z)) : Mt 4 0 282 [aR 63 0, aI a1, aJ a2] Y (Rt (some (aI v)) Z) nX := by
  refine Mt_of [(0, aR 63 0), (1, aI a1), (2, aJ a2)] ?_
  generalize ho : (v, Z) = o at h
  have hv9 : v = o.1 := congrArg Prod.fst ho
  have hZ9 : Z = o.2 := congrArg Prod.snd ho
  clear ho
  subst hv9 hZ9
  unfold fn_282_63 at h
  have L3_0 : ∀ (l1 : Int32) (l2 : Int64) (n : Nat) (l4 : Int32) (Y : Sm), lp (fun s => fn_282_63_L3 l1 l2 s.1 s.2) n (l4, Y) = some o → Wm 4 0 282 0 3 [(0, aR 63 0), (1, aI l1), (2, aJ l2), (4, aI l4)] [] Y (Rt (some (aI o.1)) o.2) nX := by
    intro l1 l2 n
    induction n with
    | zero => intro l4 Y h; cases h
    | succ n ih3 =>
      intro l4 Y h
      obtain ⟨q1, h, hn2⟩ := lp_succ h
      replace h : fn_282_63_L3 l1 l2 l4 Y = some q1 := h
      unfold fn_282_63_L3 at h
      refine w_sg k282 2 (pc' := 6) (ls' := [(0, aR 63 0), (1, aI l1), (2, aJ l2), (4, aI l4)]) (st' := [aI l1, aI l4]) (cs' := []) (fun _ => rfl) al0 ?_
      refine w_icmp_ge k282 rfl (fun c => ?_) (fun c => ?_)
      · replace h := if_t c h
        refine w_sg k282 1 (pc' := 28) (ls' := [(0, aR 63 0), (1, aI l1), (2, aJ l2), (4, aI l4)]) (st' := [aI (-1 : Int32)]) (cs' := []) (fun _ => rfl) al0 ?_
        obtain rfl := Option.some.inj h
        obtain rfl := lpn_r hn2
        exact w_ireturn k282 ⟨rfl, rfl⟩
      · replace h := if_f c h
        obtain ⟨hc4, h⟩ := ck_some h
        refine w_sg k282 5 (pc' := 15) (ls' := [(0, aR 63 0), (1, aI l1), (2, aJ l2), (4, aI l4)]) (st' := [aI (lg_cmp (gJ Y.1 63 0 (ix l4)) l2)]) (cs' := [vp_in l4 5]) (fun _ => rfl) (al1 (vin hc4)) ?_
        refine w_if_ne k282 rfl (fun c => ?_) (fun c => ?_)
        · replace h := if_f c h
          refine w_sg k282 2 (pc' := 3) (ls' := [(0, aR 63 0), (1, aI l1), (2, aJ l2), (4, aI (l4 + (nI 1)))]) (st' := []) (cs' := []) (fun _ => rfl) al0 ?_
          refine w_ls [(0, aR 63 0), (1, aI l1), (2, aJ l2), (4, aI (l4 + (nI 1)))] (lq_c rfl (lq_c rfl (lq_c rfl (lq_c rfl lq_n)))) ?_
          obtain rfl := Option.some.inj h
          exact ih3 _ _ (lpn_l hn2)
        · replace h := if_t c h
          refine w_sg k282 1 (pc' := 20) (ls' := [(0, aR 63 0), (1, aI l1), (2, aJ l2), (4, aI l4)]) (st' := [aI l4]) (cs' := []) (fun _ => rfl) al0 ?_
          obtain rfl := Option.some.inj h
          obtain rfl := lpn_r hn2
          exact w_ireturn k282 ⟨rfl, rfl⟩
  refine w_sg k282 2 (pc' := 3) (ls' := [(0, aR 63 0), (1, aI a1), (2, aJ a2), (4, aI (nI 0))]) (st' := []) (cs' := []) (fun _ => rfl) al0 ?_
  refine w_ls [(0, aR 63 0), (1, aI a1), (2, aJ a2), (4, aI (nI 0))] (lq_c rfl (lq_c rfl (lq_c rfl (lq_c rfl lq_n)))) ?_
  exact L3_0 _ _ _ _ _ h
set_option maxRecDepth 20000 in
set_option maxHeartbeats 4000000 in
/-- BallotBusModel.known -/
theorem sn_284_48_63 (a2 : Int32) {Y : Sm} (v : Int32) (Z : Sm) (h : fn_284_48_63 a2 Y = some (v, Z)) : Mt 8 0 284 [aR 48 0, aR 63 0, aI a2] Y (Rt (some (aI v)) Z) nX := by
  refine Mt_of [(0, aR 48 0), (1, aR 63 0), (2, aI a2)] ?_
  generalize ho : (v, Z) = o at h
  have hv9 : v = o.1 := congrArg Prod.fst ho
  have hZ9 : Z = o.2 := congrArg Prod.snd ho
  clear ho
  subst hv9 hZ9
  unfold fn_284_48_63 at h
  refine w_sg k284 2 (pc' := 2) (ls' := [(0, aR 48 0), (1, aR 63 0), (2, aI a2)]) (st' := [aR 48 0, aR 48 0]) (cs' := []) (fun _ => rfl) al0 ?_
  obtain ⟨v3, Y1, hv2, h⟩ := bd_some h
  refine w_cV1 k284 (sn_280  _ _ hv2) rfl (st := [aR 48 0]) rfl ?_ (fun _ _ q => q.elim)
  refine w_sg k284 1 (pc' := 6) (ls' := [(0, aR 48 0), (1, aR 63 0), (2, aI a2)]) (st' := [aI (nI 1), aI v3, aR 48 0]) (cs' := []) (fun _ => rfl) al0 ?_
  obtain ⟨_, Y4, hv5, h⟩ := bd_some h
  refine w_cV0 k284 (sn_277 _ _ _ _ hv5) rfl (st := []) rfl ?_ (fun _ _ q => q.elim)
  refine w_sg k284 4 (pc' := 15) (ls' := [(0, aR 48 0), (1, aR 63 0), (2, aI a2)]) (st' := [aJ (gJ Y4.1 48 0 30), aI a2, aR 63 0]) (cs' := []) (fun _ => rfl) al0 ?_
  obtain ⟨v8, Y6, hv7, h⟩ := bd_some h
  refine w_cS1 k284 (sn_282_63 _ _ _ _ hv7) rfl (st := []) rfl ?_ (fun _ _ q => q.elim)
  refine w_sg k284 2 (pc' := 20) (ls' := [(0, aR 48 0), (1, aR 63 0), (2, aI a2), (3, aI v8)]) (st' := [aR 48 0]) (cs' := []) (fun _ => rfl) al0 ?_
  obtain ⟨v11, Y9, hv10, h⟩ := bd_some h
  refine w_cV1 k284 (sn_276  _ _ hv10) rfl (st := []) rfl ?_ (fun _ _ q => q.elim)
  refine w_if_eq k284 rfl (fun c => ?_) (fun c => ?_)
  · replace h := if_t c h
    refine w_sg k284 1 (pc' := 42) (ls' := [(0, aR 48 0), (1, aR 63 0), (2, aI a2), (3, aI v8)]) (st' := [aR 48 0]) (cs' := []) (fun _ => rfl) al0 ?_
    obtain ⟨_, Y12, hv13, h⟩ := bd_some h
    refine w_cV0 k284 (sn_278  _ _ hv13) rfl (st := []) rfl ?_ (fun _ _ q => q.elim)
    refine w_sg k284 1 (pc' := 46) (ls' := [(0, aR 48 0), (1, aR 63 0), (2, aI a2), (3, aI v8)]) (st' := [aI v8]) (cs' := []) (fun _ => rfl) al0 ?_
    obtain rfl := Option.some.inj h
    exact w_ireturn k284 ⟨rfl, rfl⟩
  · replace h := if_f c h
    refine w_sg k284 3 (pc' := 29) (ls' := [(0, aR 48 0), (1, aR 63 0), (2, aI a2), (3, aI v8)]) (st' := [aI (-1 : Int32), aI v8, aR 48 0]) (cs' := []) (fun _ => rfl) al0 ?_
    refine w_icmp_eq k284 rfl (fun c => ?_) (fun c => ?_)
    · replace h := if_t c h
      refine w_sg k284 2 (pc' := 38) (ls' := [(0, aR 48 0), (1, aR 63 0), (2, aI a2), (3, aI v8)]) (st' := [aI (nI 3), aI (nI 0), aR 48 0]) (cs' := []) (fun _ => rfl) al0 ?_
      obtain ⟨_, Y14, hv15, h⟩ := bd_some h
      refine w_cV0 k284 (sn_277 _ _ _ _ hv15) rfl (st := []) rfl ?_ (fun _ _ q => q.elim)
      refine w_sg k284 1 (pc' := 42) (ls' := [(0, aR 48 0), (1, aR 63 0), (2, aI a2), (3, aI v8)]) (st' := [aR 48 0]) (cs' := []) (fun _ => rfl) al0 ?_
      obtain ⟨_, Y16, hv17, h⟩ := bd_some h
      refine w_cV0 k284 (sn_278  _ _ hv17) rfl (st := []) rfl ?_ (fun _ _ q => q.elim)
      refine w_sg k284 1 (pc' := 46) (ls' := [(0, aR 48 0), (1, aR 63 0), (2, aI a2), (3, aI v8)]) (st' := [aI v8]) (cs' := []) (fun _ => rfl) al0 ?_
      obtain rfl := Option.some.inj h
      exact w_ireturn k284 ⟨rfl, rfl⟩
    · replace h := if_f c h
      refine w_sg k284 3 (pc' := 38) (ls' := [(0, aR 48 0), (1, aR 63 0), (2, aI a2), (3, aI v8)]) (st' := [aI (nI 3), aI (nI 1), aR 48 0]) (cs' := []) (fun _ => rfl) al0 ?_
      obtain ⟨_, Y18, hv19, h⟩ := bd_some h
      refine w_cV0 k284 (sn_277 _ _ _ _ hv19) rfl (st := []) rfl ?_ (fun _ _ q => q.elim)
      refine w_sg k284 1 (pc' := 42) (ls' := [(0, aR 48 0), (1, aR 63 0), (2, aI a2), (3, aI v8)]) (st' := [aR 48 0]) (cs' := []) (fun _ => rfl) al0 ?_
      obtain ⟨_, Y20, hv21, h⟩ := bd_some h
      refine w_cV0 k284 (sn_278  _ _ hv21) rfl (st := []) rfl ?_ (fun _ _ q => q.elim)
      refine w_sg k284 1 (pc' := 46) (ls' := [(0, aR 48 0), (1, aR 63 0), (2, aI a2), (3, aI v8)]) (st' := [aI v8]) (cs' := []) (fun _ => rfl) al0 ?_
      obtain rfl := Option.some.inj h
      exact w_ireturn k284 ⟨rfl, rfl⟩
set_option maxRecDepth 20000 in
set_option maxHeartbeats 4000000 in
/-- BallotBusModel.readsAsk -/
theorem sn_290 {Y : Sm} (v : Unit) (Z : Sm) (h : fn_290 Y = some (v, Z)) : Mt 9 0 290 [aR 48 0] Y (Rt none Z) nX := by
  refine Mt_of [(0, aR 48 0)] ?_
  generalize ho : (v, Z) = o at h
  have hv9 : v = o.1 := congrArg Prod.fst ho
  have hZ9 : Z = o.2 := congrArg Prod.snd ho
  clear ho
  subst hv9 hZ9
  unfold fn_290 at h
  have J18_0 : ∀ (t0 : Int32) (Y : Sm), fn_290_J18 t0 Y = some o → Wm 9 0 290 0 18 [(0, aR 48 0)] [aI t0, aR 48 0] Y (Rt none o.2) nX := by
    intro t0 Y h
    unfold fn_290_J18 at h
    refine w_sg k290 1 (pc' := 19) (ls' := [(0, aR 48 0)]) (st' := [aI (nI 4), aI t0, aR 48 0]) (cs' := []) (fun _ => rfl) al0 ?_
    obtain ⟨_, Y1, hv2, h⟩ := bd_some h
    refine w_cV0 k290 (sn_277 _ _ _ _ hv2) rfl (st := []) rfl ?_ (fun _ _ q => q.elim)
    refine w_sg k290 1 (pc' := 23) (ls' := [(0, aR 48 0)]) (st' := [aR 48 0]) (cs' := []) (fun _ => rfl) al0 ?_
    obtain ⟨_, Y3, hv4, h⟩ := bd_some h
    refine w_cV0 k290 (sn_278  _ _ hv4) rfl (st := []) rfl ?_ (fun _ _ q => q.elim)
    refine w_sg k290 5 (pc' := 35) (ls' := [(0, aR 48 0)]) (st' := [aI (gI Y3.1 48 0 34), aR 64 0, aR 48 0]) (cs' := []) (fun _ => rfl) al0 ?_
    obtain ⟨v7, Y5, hv6, h⟩ := bd_some h
    refine w_cV1 k290 (sn_284_48_64 _ _ _ hv6) rfl (st := []) rfl ?_ (fun _ _ q => q.elim)
    refine w_sg k290 6 (pc' := 48) (ls' := [(0, aR 48 0), (1, aI v7)]) (st' := [aI (gI Y5.1 48 0 33), aR 63 0, aR 48 0]) (cs' := []) (fun _ => rfl) al0 ?_
    obtain ⟨v10, Y8, hv9, h⟩ := bd_some h
    refine w_cV1 k290 (sn_284_48_63 _ _ _ hv9) rfl (st := []) rfl ?_ (fun _ _ q => q.elim)
    refine w_sg k290 4 (pc' := 56) (ls' := [(0, aR 48 0), (1, aI v7), (2, aI v10)]) (st' := [aI (nI 20), aI (nI 1), aR 48 0]) (cs' := []) (fun _ => rfl) al0 ?_
    obtain ⟨v13, Y11, hv12, h⟩ := bd_some h
    refine w_cV1 k290 (sn_281 _ _ _ _ hv12) rfl (st := []) rfl ?_ (fun _ _ q => q.elim)
    refine w_sg k290 2 (pc' := 61) (ls' := [(0, aR 48 0), (1, aI v7), (2, aI v10), (3, aI v13)]) (st' := [aR 48 0]) (cs' := []) (fun _ => rfl) al0 ?_
    obtain ⟨v16, Y14, hv15, h⟩ := bd_some h
    refine w_cV1 k290 (sn_276  _ _ hv15) rfl (st := []) rfl ?_ (fun _ _ q => q.elim)
    refine w_if_ne k290 rfl (fun c => ?_) (fun c => ?_)
    · replace h := if_f c h
      obtain ⟨hc17, h⟩ := ck_some h
      refine w_sw k290 19 (Z := (sI Y14 53 0 (ix (((nI 118) + ((nI 6) * (gI Y14.1 53 0 9))) + (nI 0))) (gI Y14.1 53 0 6))) (pc' := 99) (ls' := [(0, aR 48 0), (1, aI v7), (2, aI v10), (3, aI v13), (4, aI ((nI 118) + ((nI 6) * (gI Y14.1 53 0 9))))]) (st' := []) (cs' := [vp_in (nI 9) 718, vp_in (nI 6) 718, vp_in (((nI 118) + ((nI 6) * (gI Y14.1 53 0 9))) + (nI 0)) 718, allw 53 0]) (fun _ => rfl) rfl (al2 (vin rfl) (al2 (vin rfl) (al2 (vin hc17) (al1 rfl)))) ?_
      replace h := wr_some h
      generalize (sI Y14 53 0 (ix (((nI 118) + ((nI 6) * (gI Y14.1 53 0 9))) + (nI 0))) (gI Y14.1 53 0 6)) = Y18 at h ⊢
      obtain ⟨hc19, h⟩ := ck_some h
      refine w_sw k290 7 (Z := (sI Y18 53 0 (ix (((nI 118) + ((nI 6) * (gI Y14.1 53 0 9))) + (nI 1))) v7)) (pc' := 109) (ls' := [(0, aR 48 0), (1, aI v7), (2, aI v10), (3, aI v13), (4, aI ((nI 118) + ((nI 6) * (gI Y14.1 53 0 9))))]) (st' := []) (cs' := [vp_in (((nI 118) + ((nI 6) * (gI Y14.1 53 0 9))) + (nI 1)) 718, allw 53 0]) (fun _ => rfl) rfl (al2 (vin hc19) (al1 rfl)) ?_
      replace h := wr_some h
      generalize (sI Y18 53 0 (ix (((nI 118) + ((nI 6) * (gI Y14.1 53 0 9))) + (nI 1))) v7) = Y20 at h ⊢
      obtain ⟨hc21, h⟩ := ck_some h
      refine w_sw k290 7 (Z := (sI Y20 53 0 (ix (((nI 118) + ((nI 6) * (gI Y14.1 53 0 9))) + (nI 2))) v10)) (pc' := 119) (ls' := [(0, aR 48 0), (1, aI v7), (2, aI v10), (3, aI v13), (4, aI ((nI 118) + ((nI 6) * (gI Y14.1 53 0 9))))]) (st' := []) (cs' := [vp_in (((nI 118) + ((nI 6) * (gI Y14.1 53 0 9))) + (nI 2)) 718, allw 53 0]) (fun _ => rfl) rfl (al2 (vin hc21) (al1 rfl)) ?_
      replace h := wr_some h
      generalize (sI Y20 53 0 (ix (((nI 118) + ((nI 6) * (gI Y14.1 53 0 9))) + (nI 2))) v10) = Y22 at h ⊢
      obtain ⟨hc23, h⟩ := ck_some h
      refine w_sw k290 7 (Z := (sI Y22 53 0 (ix (((nI 118) + ((nI 6) * (gI Y14.1 53 0 9))) + (nI 3))) v13)) (pc' := 129) (ls' := [(0, aR 48 0), (1, aI v7), (2, aI v10), (3, aI v13), (4, aI ((nI 118) + ((nI 6) * (gI Y14.1 53 0 9))))]) (st' := []) (cs' := [vp_in (((nI 118) + ((nI 6) * (gI Y14.1 53 0 9))) + (nI 3)) 718, allw 53 0]) (fun _ => rfl) rfl (al2 (vin hc23) (al1 rfl)) ?_
      replace h := wr_some h
      generalize (sI Y22 53 0 (ix (((nI 118) + ((nI 6) * (gI Y14.1 53 0 9))) + (nI 3))) v13) = Y24 at h ⊢
      obtain ⟨hc25, h⟩ := ck_some h
      refine w_sw k290 7 (Z := (sI Y24 53 0 (ix (((nI 118) + ((nI 6) * (gI Y14.1 53 0 9))) + (nI 4))) v13)) (pc' := 139) (ls' := [(0, aR 48 0), (1, aI v7), (2, aI v10), (3, aI v13), (4, aI ((nI 118) + ((nI 6) * (gI Y14.1 53 0 9))))]) (st' := []) (cs' := [vp_in (((nI 118) + ((nI 6) * (gI Y14.1 53 0 9))) + (nI 4)) 718, allw 53 0]) (fun _ => rfl) rfl (al2 (vin hc25) (al1 rfl)) ?_
      replace h := wr_some h
      generalize (sI Y24 53 0 (ix (((nI 118) + ((nI 6) * (gI Y14.1 53 0 9))) + (nI 4))) v13) = Y26 at h ⊢
      refine w_sw k290 10 (Z := (sI Y26 53 0 9 ((gI Y26.1 53 0 9) + (nI 1)))) (pc' := 155) (ls' := [(0, aR 48 0), (1, aI v7), (2, aI v10), (3, aI v13), (4, aI ((nI 118) + ((nI 6) * (gI Y14.1 53 0 9))))]) (st' := []) (cs' := [vp_in (nI 9) 718, vp_in (nI 9) 718, allw 53 0]) (fun _ => rfl) rfl (al2 (vin rfl) (al2 (vin rfl) (al1 rfl))) ?_
      replace h := wr_some h
      generalize (sI Y26 53 0 9 ((gI Y26.1 53 0 9) + (nI 1))) = Y27 at h ⊢
      refine w_sw k290 10 (Z := (sI Y27 53 0 6 ((gI Y27.1 53 0 6) + (nI 1)))) (pc' := 171) (ls' := [(0, aR 48 0), (1, aI v7), (2, aI v10), (3, aI v13), (4, aI ((nI 118) + ((nI 6) * (gI Y14.1 53 0 9))))]) (st' := []) (cs' := [vp_in (nI 6) 718, vp_in (nI 6) 718, allw 53 0]) (fun _ => rfl) rfl (al2 (vin rfl) (al2 (vin rfl) (al1 rfl))) ?_
      replace h := wr_some h
      generalize (sI Y27 53 0 6 ((gI Y27.1 53 0 6) + (nI 1))) = Y28 at h ⊢
      obtain rfl := Option.some.inj h
      exact w_return k290 ⟨rfl, rfl⟩
    · replace h := if_t c h
      obtain rfl := Option.some.inj h
      exact w_return k290 ⟨rfl, rfl⟩
  refine w_sg k290 6 (pc' := 10) (ls' := [(0, aR 48 0)]) (st' := [aI (nI 40), aI (gI Y.1 53 0 9), aR 48 0]) (cs' := [vp_in (nI 9) 718]) (fun _ => rfl) (al1 (vin rfl)) ?_
  refine w_icmp_ge k290 rfl (fun c => ?_) (fun c => ?_)
  · replace h := if_t c h
    refine w_sg k290 1 (pc' := 18) (ls' := [(0, aR 48 0)]) (st' := [aI (nI 0), aR 48 0]) (cs' := []) (fun _ => rfl) al0 ?_
    refine w_ls [(0, aR 48 0)] (lq_c rfl lq_n) ?_
    exact J18_0 _ _ h
  · replace h := if_f c h
    refine w_sg k290 2 (pc' := 18) (ls' := [(0, aR 48 0)]) (st' := [aI (nI 1), aR 48 0]) (cs' := []) (fun _ => rfl) al0 ?_
    refine w_ls [(0, aR 48 0)] (lq_c rfl lq_n) ?_
    exact J18_0 _ _ h
set_option maxRecDepth 20000 in
set_option maxHeartbeats 4000000 in
/-- BallotBusModel.fresh -/
theorem sn_283_48_64 (a2 : Int32) {Y : Sm} (v : Int64) (Z : Sm) (h : fn_283_48_64 a2 Y = some (v, Z)) : Mt 8 0 283 [aR 48 0, aR 64 0, aI a2] Y (Rt (some (aJ v)) Z) nX := by
  refine Mt_of [(0, aR 48 0), (1, aR 64 0), (2, aI a2)] ?_
  generalize ho : (v, Z) = o at h
  have hv9 : v = o.1 := congrArg Prod.fst ho
  have hZ9 : Z = o.2 := congrArg Prod.snd ho
  clear ho
  subst hv9 hZ9
  unfold fn_283_48_64 at h
  have J35_0 : ∀ (t0 : Int32) (Y : Sm), fn_283_48_64_J35 t0 Y = some o → Wm 8 0 283 0 35 [(0, aR 48 0)] [aI t0, aR 48 0] Y (Rt (some (aJ o.1)) o.2) nX := by
    intro t0 Y h
    unfold fn_283_48_64_J35 at h
    refine w_sg k283 1 (pc' := 36) (ls' := [(0, aR 48 0)]) (st' := [aI (nI 3), aI t0, aR 48 0]) (cs' := []) (fun _ => rfl) al0 ?_
    obtain ⟨_, Y14, hv15, h⟩ := bd_some h
    refine w_cV0 k283 (sn_277 _ _ _ _ hv15) rfl (st := []) rfl ?_ (fun _ _ q => q.elim)
    refine w_sg k283 4 (pc' := 45) (ls' := [(0, aR 48 0), (3, aJ (gJ Y14.1 48 0 30))]) (st' := [aR 48 0]) (cs' := []) (fun _ => rfl) al0 ?_
    obtain ⟨_, Y16, hv17, h⟩ := bd_some h
    refine w_cV0 k283 (sn_278  _ _ hv17) rfl (st := []) rfl ?_ (fun _ _ q => q.elim)
    refine w_sg k283 1 (pc' := 49) (ls' := [(0, aR 48 0), (3, aJ (gJ Y14.1 48 0 30))]) (st' := [aJ (gJ Y14.1 48 0 30)]) (cs' := []) (fun _ => rfl) al0 ?_
    obtain rfl := Option.some.inj h
    exact w_lreturn k283 ⟨rfl, rfl⟩
  refine w_sg k283 2 (pc' := 2) (ls' := [(0, aR 48 0), (1, aR 64 0), (2, aI a2)]) (st' := [aR 48 0, aR 48 0]) (cs' := []) (fun _ => rfl) al0 ?_
  obtain ⟨v3, Y1, hv2, h⟩ := bd_some h
  refine w_cV1 k283 (sn_280  _ _ hv2) rfl (st := [aR 48 0]) rfl ?_ (fun _ _ q => q.elim)
  refine w_sg k283 1 (pc' := 6) (ls' := [(0, aR 48 0), (1, aR 64 0), (2, aI a2)]) (st' := [aI (nI 1), aI v3, aR 48 0]) (cs' := []) (fun _ => rfl) al0 ?_
  obtain ⟨_, Y4, hv5, h⟩ := bd_some h
  refine w_cV0 k283 (sn_277 _ _ _ _ hv5) rfl (st := []) rfl ?_ (fun _ _ q => q.elim)
  refine w_sg k283 1 (pc' := 10) (ls' := [(0, aR 48 0), (1, aR 64 0), (2, aI a2)]) (st' := [aR 48 0]) (cs' := []) (fun _ => rfl) al0 ?_
  obtain ⟨v8, Y6, hv7, h⟩ := bd_some h
  refine w_cV1 k283 (sn_276  _ _ hv7) rfl (st := []) rfl ?_ (fun _ _ q => q.elim)
  refine w_if_eq k283 rfl (fun c => ?_) (fun c => ?_)
  · replace h := if_t c h
    refine w_sg k283 4 (pc' := 45) (ls' := [(0, aR 48 0), (1, aR 64 0), (2, aI a2), (3, aJ (gJ Y6.1 48 0 30))]) (st' := [aR 48 0]) (cs' := []) (fun _ => rfl) al0 ?_
    obtain ⟨_, Y9, hv10, h⟩ := bd_some h
    refine w_cV0 k283 (sn_278  _ _ hv10) rfl (st := []) rfl ?_ (fun _ _ q => q.elim)
    refine w_sg k283 1 (pc' := 49) (ls' := [(0, aR 48 0), (1, aR 64 0), (2, aI a2), (3, aJ (gJ Y6.1 48 0 30))]) (st' := [aJ (gJ Y6.1 48 0 30)]) (cs' := []) (fun _ => rfl) al0 ?_
    obtain rfl := Option.some.inj h
    exact w_lreturn k283 ⟨rfl, rfl⟩
  · replace h := if_f c h
    refine w_sg k283 5 (pc' := 23) (ls' := [(0, aR 48 0), (1, aR 64 0), (2, aI a2)]) (st' := [aJ (gJ Y6.1 48 0 30), aI a2, aR 64 0, aR 48 0]) (cs' := []) (fun _ => rfl) al0 ?_
    obtain ⟨v13, Y11, hv12, h⟩ := bd_some h
    refine w_cS1 k283 (sn_282_64 _ _ _ _ hv12) rfl (st := [aR 48 0]) rfl ?_ (fun _ _ q => q.elim)
    refine w_sg k283 1 (pc' := 27) (ls' := [(0, aR 48 0), (1, aR 64 0), (2, aI a2)]) (st' := [aI (-1 : Int32), aI v13, aR 48 0]) (cs' := []) (fun _ => rfl) al0 ?_
    refine w_icmp_ne k283 rfl (fun c => ?_) (fun c => ?_)
    · replace h := if_f c h
      refine w_sg k283 1 (pc' := 35) (ls' := [(0, aR 48 0), (1, aR 64 0), (2, aI a2)]) (st' := [aI (nI 0), aR 48 0]) (cs' := []) (fun _ => rfl) al0 ?_
      refine w_ls [(0, aR 48 0)] (lq_c rfl lq_n) ?_
      exact J35_0 _ _ h
    · replace h := if_t c h
      refine w_sg k283 2 (pc' := 35) (ls' := [(0, aR 48 0), (1, aR 64 0), (2, aI a2)]) (st' := [aI (nI 1), aR 48 0]) (cs' := []) (fun _ => rfl) al0 ?_
      refine w_ls [(0, aR 48 0)] (lq_c rfl lq_n) ?_
      exact J35_0 _ _ h
set_option maxRecDepth 20000 in
set_option maxHeartbeats 4000000 in
/-- BallotBusModel.readsAsker -/
theorem sn_286 {Y : Sm} (v : Unit) (Z : Sm) (h : fn_286 Y = some (v, Z)) : Mt 9 0 286 [aR 48 0] Y (Rt none Z) nX := by
  refine Mt_of [(0, aR 48 0)] ?_
  generalize ho : (v, Z) = o at h
  have hv9 : v = o.1 := congrArg Prod.fst ho
  have hZ9 : Z = o.2 := congrArg Prod.snd ho
  clear ho
  subst hv9 hZ9
  unfold fn_286 at h
  have J15_0 : ∀ (t0 : Int32) (Y : Sm), fn_286_J15 t0 Y = some o → Wm 9 0 286 0 15 [(0, aR 48 0)] [aI t0, aR 48 0] Y (Rt none o.2) nX := by
    intro t0 Y h
    unfold fn_286_J15 at h
    refine w_sg k286 1 (pc' := 16) (ls' := [(0, aR 48 0)]) (st' := [aI (nI 4), aI t0, aR 48 0]) (cs' := []) (fun _ => rfl) al0 ?_
    obtain ⟨_, Y1, hv2, h⟩ := bd_some h
    refine w_cV0 k286 (sn_277 _ _ _ _ hv2) rfl (st := []) rfl ?_ (fun _ _ q => q.elim)
    refine w_sg k286 1 (pc' := 20) (ls' := [(0, aR 48 0)]) (st' := [aR 48 0]) (cs' := []) (fun _ => rfl) al0 ?_
    obtain ⟨_, Y3, hv4, h⟩ := bd_some h
    refine w_cV0 k286 (sn_278  _ _ hv4) rfl (st := []) rfl ?_ (fun _ _ q => q.elim)
    refine w_sg k286 1 (pc' := 24) (ls' := [(0, aR 48 0)]) (st' := [aR 48 0]) (cs' := []) (fun _ => rfl) al0 ?_
    obtain ⟨v7, Y5, hv6, h⟩ := bd_some h
    refine w_cV1 k286 (sn_276  _ _ hv6) rfl (st := []) rfl ?_ (fun _ _ q => q.elim)
    refine w_if_ne k286 rfl (fun c => ?_) (fun c => ?_)
    · replace h := if_f c h
      refine w_sg k286 10 (pc' := 47) (ls' := [(0, aR 48 0), (1, aI (gI Y5.1 48 0 34))]) (st' := [aI (gI Y5.1 48 0 34), aR 64 0, aR 48 0, aI (gI Y5.1 48 0 34), aR 64 0]) (cs' := []) (fun _ => rfl) al0 ?_
      obtain ⟨v10, Y8, hv9, h⟩ := bd_some h
      refine w_cV1 k286 (sn_283_48_64 _ _ _ hv9) rfl (st := [aI (gI Y5.1 48 0 34), aR 64 0]) rfl ?_ (fun _ _ q => q.elim)
      obtain ⟨hc11, h⟩ := ck_some h
      refine w_sw k286 1 (Z := (sJ Y8 64 0 (ix (gI Y5.1 48 0 34)) v10)) (pc' := 51) (ls' := [(0, aR 48 0), (1, aI (gI Y5.1 48 0 34))]) (st' := []) (cs' := [vp_in (gI Y5.1 48 0 34) 8, allw 64 0]) (fun _ => rfl) rfl (al2 (vin hc11) (al1 rfl)) ?_
      replace h := wr_some h
      generalize (sJ Y8 64 0 (ix (gI Y5.1 48 0 34)) v10) = Y12 at h ⊢
      refine w_sg k286 3 (pc' := 54) (ls' := [(0, aR 48 0), (1, aI (gI Y5.1 48 0 34))]) (st' := [aI (nI 5), aR 48 0, aR 48 0]) (cs' := []) (fun _ => rfl) al0 ?_
      obtain ⟨v15, Y13, hv14, h⟩ := bd_some h
      refine w_cV1 k286 (sn_279 _ _ _ hv14) rfl (st := [aR 48 0]) rfl ?_ (fun _ _ q => q.elim)
      refine w_sg k286 1 (pc' := 58) (ls' := [(0, aR 48 0), (1, aI (gI Y5.1 48 0 34))]) (st' := [aI (nI 1), aI v15, aR 48 0]) (cs' := []) (fun _ => rfl) al0 ?_
      obtain ⟨_, Y16, hv17, h⟩ := bd_some h
      refine w_cV0 k286 (sn_277 _ _ _ _ hv17) rfl (st := []) rfl ?_ (fun _ _ q => q.elim)
      refine w_sg k286 1 (pc' := 62) (ls' := [(0, aR 48 0), (1, aI (gI Y5.1 48 0 34))]) (st' := [aR 48 0]) (cs' := []) (fun _ => rfl) al0 ?_
      obtain ⟨_, Y18, hv19, h⟩ := bd_some h
      refine w_cV0 k286 (sn_278  _ _ hv19) rfl (st := []) rfl ?_ (fun _ _ q => q.elim)
      refine w_sg k286 8 (pc' := 78) (ls' := [(0, aR 48 0), (1, aI (gI Y5.1 48 0 34))]) (st' := [aI (nI 999), aI (nI 0), aR 48 0, aI ((nI 20) + (gI Y5.1 48 0 34)), aR 53 0]) (cs' := []) (fun _ => rfl) al0 ?_
      obtain ⟨v22, Y20, hv21, h⟩ := bd_some h
      refine w_cV1 k286 (sn_281 _ _ _ _ hv21) rfl (st := [aI ((nI 20) + (gI Y5.1 48 0 34)), aR 53 0]) rfl ?_ (fun _ _ q => q.elim)
      obtain ⟨hc23, h⟩ := ck_some h
      refine w_sw k286 1 (Z := (sI Y20 53 0 (ix ((nI 20) + (gI Y5.1 48 0 34))) v22)) (pc' := 82) (ls' := [(0, aR 48 0), (1, aI (gI Y5.1 48 0 34))]) (st' := []) (cs' := [vp_in ((nI 20) + (gI Y5.1 48 0 34)) 718, allw 53 0]) (fun _ => rfl) rfl (al2 (vin hc23) (al1 rfl)) ?_
      replace h := wr_some h
      generalize (sI Y20 53 0 (ix ((nI 20) + (gI Y5.1 48 0 34))) v22) = Y24 at h ⊢
      refine w_sw k286 5 (Z := (sI Y24 62 0 (ix (gI Y5.1 48 0 34)) (nI 1))) (pc' := 89) (ls' := [(0, aR 48 0), (1, aI (gI Y5.1 48 0 34))]) (st' := []) (cs' := [vp_in (gI Y5.1 48 0 34) 8, allw 62 0]) (fun _ => rfl) rfl (al2 (vin hc11) (al1 rfl)) ?_
      replace h := wr_some h
      generalize (sI Y24 62 0 (ix (gI Y5.1 48 0 34)) (nI 1)) = Y25 at h ⊢
      refine w_sg k286 2 (pc' := 92) (ls' := [(0, aR 48 0), (1, aI (gI Y5.1 48 0 34))]) (st' := [aI (nI 6), aR 48 0]) (cs' := []) (fun _ => rfl) al0 ?_
      obtain ⟨v28, Y26, hv27, h⟩ := bd_some h
      refine w_cV1 k286 (sn_279 _ _ _ hv27) rfl (st := []) rfl ?_ (fun _ _ q => q.elim)
      refine w_if_eq k286 rfl (fun c => ?_) (fun c => ?_)
      · replace h := if_t c h
        refine w_sw k286 5 (Z := (sI Y26 48 0 34 ((gI Y5.1 48 0 34) + (nI 1)))) (pc' := 122) (ls' := [(0, aR 48 0), (1, aI (gI Y5.1 48 0 34))]) (st' := []) (cs' := [allw 48 0]) (fun _ => rfl) rfl (al1 rfl) ?_
        replace h := wr_some h
        generalize (sI Y26 48 0 34 ((gI Y5.1 48 0 34) + (nI 1))) = Y29 at h ⊢
        obtain rfl := Option.some.inj h
        exact w_return k286 ⟨rfl, rfl⟩
      · replace h := if_f c h
        refine w_sg k286 1 (pc' := 99) (ls' := [(0, aR 48 0), (1, aI (gI Y5.1 48 0 34))]) (st' := [aR 48 0]) (cs' := []) (fun _ => rfl) al0 ?_
        obtain ⟨_, Y30, hv31, h⟩ := bd_some h
        refine w_cV0 k286 (sn_278  _ _ hv31) rfl (st := []) rfl ?_ (fun _ _ q => q.elim)
        refine w_sg k286 6 (pc' := 111) (ls' := [(0, aR 48 0), (1, aI (gI Y5.1 48 0 34))]) (st' := [aI (nI 9), aI (nI 1), aR 48 0, aI (gI Y5.1 48 0 34), aR 62 0]) (cs' := []) (fun _ => rfl) al0 ?_
        obtain ⟨v34, Y32, hv33, h⟩ := bd_some h
        refine w_cV1 k286 (sn_281 _ _ _ _ hv33) rfl (st := [aI (gI Y5.1 48 0 34), aR 62 0]) rfl ?_ (fun _ _ q => q.elim)
        refine w_sw k286 1 (Z := (sI Y32 62 0 (ix (gI Y5.1 48 0 34)) v34)) (pc' := 115) (ls' := [(0, aR 48 0), (1, aI (gI Y5.1 48 0 34))]) (st' := []) (cs' := [vp_in (gI Y5.1 48 0 34) 8, allw 62 0]) (fun _ => rfl) rfl (al2 (vin hc11) (al1 rfl)) ?_
        replace h := wr_some h
        generalize (sI Y32 62 0 (ix (gI Y5.1 48 0 34)) v34) = Y35 at h ⊢
        refine w_sw k286 5 (Z := (sI Y35 48 0 34 ((gI Y5.1 48 0 34) + (nI 1)))) (pc' := 122) (ls' := [(0, aR 48 0), (1, aI (gI Y5.1 48 0 34))]) (st' := []) (cs' := [allw 48 0]) (fun _ => rfl) rfl (al1 rfl) ?_
        replace h := wr_some h
        generalize (sI Y35 48 0 34 ((gI Y5.1 48 0 34) + (nI 1))) = Y36 at h ⊢
        obtain rfl := Option.some.inj h
        exact w_return k286 ⟨rfl, rfl⟩
    · replace h := if_t c h
      obtain rfl := Option.some.inj h
      exact w_return k286 ⟨rfl, rfl⟩
  refine w_sg k286 4 (pc' := 7) (ls' := [(0, aR 48 0)]) (st' := [aI (nI 8), aI (gI Y.1 48 0 34), aR 48 0]) (cs' := []) (fun _ => rfl) al0 ?_
  refine w_icmp_ge k286 rfl (fun c => ?_) (fun c => ?_)
  · replace h := if_t c h
    refine w_sg k286 1 (pc' := 15) (ls' := [(0, aR 48 0)]) (st' := [aI (nI 0), aR 48 0]) (cs' := []) (fun _ => rfl) al0 ?_
    refine w_ls [(0, aR 48 0)] (lq_c rfl lq_n) ?_
    exact J15_0 _ _ h
  · replace h := if_f c h
    refine w_sg k286 2 (pc' := 15) (ls' := [(0, aR 48 0)]) (st' := [aI (nI 1), aR 48 0]) (cs' := []) (fun _ => rfl) al0 ?_
    refine w_ls [(0, aR 48 0)] (lq_c rfl lq_n) ?_
    exact J15_0 _ _ h
set_option maxRecDepth 20000 in
set_option maxHeartbeats 4000000 in
/-- BallotBusModel.fresh -/
theorem sn_283_48_63 (a2 : Int32) {Y : Sm} (v : Int64) (Z : Sm) (h : fn_283_48_63 a2 Y = some (v, Z)) : Mt 8 0 283 [aR 48 0, aR 63 0, aI a2] Y (Rt (some (aJ v)) Z) nX := by
  refine Mt_of [(0, aR 48 0), (1, aR 63 0), (2, aI a2)] ?_
  generalize ho : (v, Z) = o at h
  have hv9 : v = o.1 := congrArg Prod.fst ho
  have hZ9 : Z = o.2 := congrArg Prod.snd ho
  clear ho
  subst hv9 hZ9
  unfold fn_283_48_63 at h
  have J35_0 : ∀ (t0 : Int32) (Y : Sm), fn_283_48_63_J35 t0 Y = some o → Wm 8 0 283 0 35 [(0, aR 48 0)] [aI t0, aR 48 0] Y (Rt (some (aJ o.1)) o.2) nX := by
    intro t0 Y h
    unfold fn_283_48_63_J35 at h
    refine w_sg k283 1 (pc' := 36) (ls' := [(0, aR 48 0)]) (st' := [aI (nI 3), aI t0, aR 48 0]) (cs' := []) (fun _ => rfl) al0 ?_
    obtain ⟨_, Y14, hv15, h⟩ := bd_some h
    refine w_cV0 k283 (sn_277 _ _ _ _ hv15) rfl (st := []) rfl ?_ (fun _ _ q => q.elim)
    refine w_sg k283 4 (pc' := 45) (ls' := [(0, aR 48 0), (3, aJ (gJ Y14.1 48 0 30))]) (st' := [aR 48 0]) (cs' := []) (fun _ => rfl) al0 ?_
    obtain ⟨_, Y16, hv17, h⟩ := bd_some h
    refine w_cV0 k283 (sn_278  _ _ hv17) rfl (st := []) rfl ?_ (fun _ _ q => q.elim)
    refine w_sg k283 1 (pc' := 49) (ls' := [(0, aR 48 0), (3, aJ (gJ Y14.1 48 0 30))]) (st' := [aJ (gJ Y14.1 48 0 30)]) (cs' := []) (fun _ => rfl) al0 ?_
    obtain rfl := Option.some.inj h
    exact w_lreturn k283 ⟨rfl, rfl⟩
  refine w_sg k283 2 (pc' := 2) (ls' := [(0, aR 48 0), (1, aR 63 0), (2, aI a2)]) (st' := [aR 48 0, aR 48 0]) (cs' := []) (fun _ => rfl) al0 ?_
  obtain ⟨v3, Y1, hv2, h⟩ := bd_some h
  refine w_cV1 k283 (sn_280  _ _ hv2) rfl (st := [aR 48 0]) rfl ?_ (fun _ _ q => q.elim)
  refine w_sg k283 1 (pc' := 6) (ls' := [(0, aR 48 0), (1, aR 63 0), (2, aI a2)]) (st' := [aI (nI 1), aI v3, aR 48 0]) (cs' := []) (fun _ => rfl) al0 ?_
  obtain ⟨_, Y4, hv5, h⟩ := bd_some h
  refine w_cV0 k283 (sn_277 _ _ _ _ hv5) rfl (st := []) rfl ?_ (fun _ _ q => q.elim)
  refine w_sg k283 1 (pc' := 10) (ls' := [(0, aR 48 0), (1, aR 63 0), (2, aI a2)]) (st' := [aR 48 0]) (cs' := []) (fun _ => rfl) al0 ?_
  obtain ⟨v8, Y6, hv7, h⟩ := bd_some h
  refine w_cV1 k283 (sn_276  _ _ hv7) rfl (st := []) rfl ?_ (fun _ _ q => q.elim)
  refine w_if_eq k283 rfl (fun c => ?_) (fun c => ?_)
  · replace h := if_t c h
    refine w_sg k283 4 (pc' := 45) (ls' := [(0, aR 48 0), (1, aR 63 0), (2, aI a2), (3, aJ (gJ Y6.1 48 0 30))]) (st' := [aR 48 0]) (cs' := []) (fun _ => rfl) al0 ?_
    obtain ⟨_, Y9, hv10, h⟩ := bd_some h
    refine w_cV0 k283 (sn_278  _ _ hv10) rfl (st := []) rfl ?_ (fun _ _ q => q.elim)
    refine w_sg k283 1 (pc' := 49) (ls' := [(0, aR 48 0), (1, aR 63 0), (2, aI a2), (3, aJ (gJ Y6.1 48 0 30))]) (st' := [aJ (gJ Y6.1 48 0 30)]) (cs' := []) (fun _ => rfl) al0 ?_
    obtain rfl := Option.some.inj h
    exact w_lreturn k283 ⟨rfl, rfl⟩
  · replace h := if_f c h
    refine w_sg k283 5 (pc' := 23) (ls' := [(0, aR 48 0), (1, aR 63 0), (2, aI a2)]) (st' := [aJ (gJ Y6.1 48 0 30), aI a2, aR 63 0, aR 48 0]) (cs' := []) (fun _ => rfl) al0 ?_
    obtain ⟨v13, Y11, hv12, h⟩ := bd_some h
    refine w_cS1 k283 (sn_282_63 _ _ _ _ hv12) rfl (st := [aR 48 0]) rfl ?_ (fun _ _ q => q.elim)
    refine w_sg k283 1 (pc' := 27) (ls' := [(0, aR 48 0), (1, aR 63 0), (2, aI a2)]) (st' := [aI (-1 : Int32), aI v13, aR 48 0]) (cs' := []) (fun _ => rfl) al0 ?_
    refine w_icmp_ne k283 rfl (fun c => ?_) (fun c => ?_)
    · replace h := if_f c h
      refine w_sg k283 1 (pc' := 35) (ls' := [(0, aR 48 0), (1, aR 63 0), (2, aI a2)]) (st' := [aI (nI 0), aR 48 0]) (cs' := []) (fun _ => rfl) al0 ?_
      refine w_ls [(0, aR 48 0)] (lq_c rfl lq_n) ?_
      exact J35_0 _ _ h
    · replace h := if_t c h
      refine w_sg k283 2 (pc' := 35) (ls' := [(0, aR 48 0), (1, aR 63 0), (2, aI a2)]) (st' := [aI (nI 1), aR 48 0]) (cs' := []) (fun _ => rfl) al0 ?_
      refine w_ls [(0, aR 48 0)] (lq_c rfl lq_n) ?_
      exact J35_0 _ _ h
set_option maxRecDepth 20000 in
set_option maxHeartbeats 4000000 in
/-- BallotBusModel.readsClass -/
theorem sn_285 {Y : Sm} (v : Unit) (Z : Sm) (h : fn_285 Y = some (v, Z)) : Mt 9 0 285 [aR 48 0] Y (Rt none Z) nX := by
  refine Mt_of [(0, aR 48 0)] ?_
  generalize ho : (v, Z) = o at h
  have hv9 : v = o.1 := congrArg Prod.fst ho
  have hZ9 : Z = o.2 := congrArg Prod.snd ho
  clear ho
  subst hv9 hZ9
  unfold fn_285 at h
  have J14_0 : ∀ (t0 : Int32) (Y : Sm), fn_285_J14 t0 Y = some o → Wm 9 0 285 0 14 [(0, aR 48 0)] [aI t0, aR 48 0] Y (Rt none o.2) nX := by
    intro t0 Y h
    unfold fn_285_J14 at h
    refine w_sg k285 1 (pc' := 15) (ls' := [(0, aR 48 0)]) (st' := [aI (nI 4), aI t0, aR 48 0]) (cs' := []) (fun _ => rfl) al0 ?_
    obtain ⟨_, Y1, hv2, h⟩ := bd_some h
    refine w_cV0 k285 (sn_277 _ _ _ _ hv2) rfl (st := []) rfl ?_ (fun _ _ q => q.elim)
    refine w_sg k285 1 (pc' := 19) (ls' := [(0, aR 48 0)]) (st' := [aR 48 0]) (cs' := []) (fun _ => rfl) al0 ?_
    obtain ⟨_, Y3, hv4, h⟩ := bd_some h
    refine w_cV0 k285 (sn_278  _ _ hv4) rfl (st := []) rfl ?_ (fun _ _ q => q.elim)
    refine w_sg k285 1 (pc' := 23) (ls' := [(0, aR 48 0)]) (st' := [aR 48 0]) (cs' := []) (fun _ => rfl) al0 ?_
    obtain ⟨v7, Y5, hv6, h⟩ := bd_some h
    refine w_cV1 k285 (sn_276  _ _ hv6) rfl (st := []) rfl ?_ (fun _ _ q => q.elim)
    refine w_if_ne k285 rfl (fun c => ?_) (fun c => ?_)
    · replace h := if_f c h
      refine w_sg k285 10 (pc' := 46) (ls' := [(0, aR 48 0), (1, aI (gI Y5.1 48 0 33))]) (st' := [aI (gI Y5.1 48 0 33), aR 63 0, aR 48 0, aI (gI Y5.1 48 0 33), aR 63 0]) (cs' := []) (fun _ => rfl) al0 ?_
      obtain ⟨v10, Y8, hv9, h⟩ := bd_some h
      refine w_cV1 k285 (sn_283_48_63 _ _ _ hv9) rfl (st := [aI (gI Y5.1 48 0 33), aR 63 0]) rfl ?_ (fun _ _ q => q.elim)
      obtain ⟨hc11, h⟩ := ck_some h
      refine w_sw k285 1 (Z := (sJ Y8 63 0 (ix (gI Y5.1 48 0 33)) v10)) (pc' := 50) (ls' := [(0, aR 48 0), (1, aI (gI Y5.1 48 0 33))]) (st' := []) (cs' := [vp_in (gI Y5.1 48 0 33) 5, allw 63 0]) (fun _ => rfl) rfl (al2 (vin hc11) (al1 rfl)) ?_
      replace h := wr_some h
      generalize (sJ Y8 63 0 (ix (gI Y5.1 48 0 33)) v10) = Y12 at h ⊢
      refine w_sg k285 1 (pc' := 51) (ls' := [(0, aR 48 0), (1, aI (gI Y5.1 48 0 33))]) (st' := [aR 48 0]) (cs' := []) (fun _ => rfl) al0 ?_
      obtain ⟨v15, Y13, hv14, h⟩ := bd_some h
      refine w_cV1 k285 (sn_276  _ _ hv14) rfl (st := []) rfl ?_ (fun _ _ q => q.elim)
      refine w_if_eq k285 rfl (fun c => ?_) (fun c => ?_)
      · replace h := if_t c h
        refine w_sw k285 5 (Z := (sI Y13 48 0 33 ((gI Y5.1 48 0 33) + (nI 1)))) (pc' := 104) (ls' := [(0, aR 48 0), (1, aI (gI Y5.1 48 0 33))]) (st' := []) (cs' := [allw 48 0]) (fun _ => rfl) rfl (al1 rfl) ?_
        replace h := wr_some h
        generalize (sI Y13 48 0 33 ((gI Y5.1 48 0 33) + (nI 1))) = Y16 at h ⊢
        obtain rfl := Option.some.inj h
        exact w_return k285 ⟨rfl, rfl⟩
      · replace h := if_f c h
        refine w_sg k285 3 (pc' := 62) (ls' := [(0, aR 48 0), (1, aI (gI Y5.1 48 0 33))]) (st' := [aI (nI 1), aI (gI Y13.1 48 0 27)]) (cs' := []) (fun _ => rfl) al0 ?_
        refine w_icmp_ne k285 rfl (fun c => ?_) (fun c => ?_)
        · replace h := if_f c h
          refine w_sw k285 5 (Z := (sI Y13 48 0 33 ((gI Y5.1 48 0 33) + (nI 1)))) (pc' := 104) (ls' := [(0, aR 48 0), (1, aI (gI Y5.1 48 0 33))]) (st' := []) (cs' := [allw 48 0]) (fun _ => rfl) rfl (al1 rfl) ?_
          replace h := wr_some h
          generalize (sI Y13 48 0 33 ((gI Y5.1 48 0 33) + (nI 1))) = Y17 at h ⊢
          obtain rfl := Option.some.inj h
          exact w_return k285 ⟨rfl, rfl⟩
        · replace h := if_t c h
          refine w_sg k285 5 (pc' := 74) (ls' := [(0, aR 48 0), (1, aI (gI Y5.1 48 0 33))]) (st' := [aJ (((nI 3)).toInt64), aJ (Int64.ofNat 1), aJ ((gI Y13.1 48 0 28).toInt64)]) (cs' := []) (fun _ => rfl) al0 ?_
          obtain ⟨v20, Y18, hv19, h⟩ := bd_some h
          refine w_cS1 k285 (sn_166 _ _ _ _ _ hv19) rfl (st := []) rfl ?_ (fun _ _ q => q.elim)
          refine w_if_eq k285 rfl (fun c => ?_) (fun c => ?_)
          · replace h := if_t c h
            refine w_sw k285 5 (Z := (sI Y18 48 0 33 ((gI Y5.1 48 0 33) + (nI 1)))) (pc' := 104) (ls' := [(0, aR 48 0), (1, aI (gI Y5.1 48 0 33))]) (st' := []) (cs' := [allw 48 0]) (fun _ => rfl) rfl (al1 rfl) ?_
            replace h := wr_some h
            generalize (sI Y18 48 0 33 ((gI Y5.1 48 0 33) + (nI 1))) = Y21 at h ⊢
            obtain rfl := Option.some.inj h
            exact w_return k285 ⟨rfl, rfl⟩
          · replace h := if_f c h
            obtain ⟨hc22, h⟩ := ck_some h
            refine w_sw k285 8 (Z := (sI Y18 53 0 (ix ((nI 15) + (gI Y5.1 48 0 33))) (gI Y18.1 48 0 28))) (pc' := 93) (ls' := [(0, aR 48 0), (1, aI (gI Y5.1 48 0 33))]) (st' := []) (cs' := [vp_in ((nI 15) + (gI Y5.1 48 0 33)) 718, allw 53 0]) (fun _ => rfl) rfl (al2 (vin hc22) (al1 rfl)) ?_
            replace h := wr_some h
            generalize (sI Y18 53 0 (ix ((nI 15) + (gI Y5.1 48 0 33))) (gI Y18.1 48 0 28)) = Y23 at h ⊢
            refine w_sg k285 1 (pc' := 94) (ls' := [(0, aR 48 0), (1, aI (gI Y5.1 48 0 33))]) (st' := [aR 48 0]) (cs' := []) (fun _ => rfl) al0 ?_
            obtain ⟨_, Y24, hv25, h⟩ := bd_some h
            refine w_cV0 k285 (sn_278  _ _ hv25) rfl (st := []) rfl ?_ (fun _ _ q => q.elim)
            refine w_sw k285 5 (Z := (sI Y24 48 0 33 ((gI Y5.1 48 0 33) + (nI 1)))) (pc' := 104) (ls' := [(0, aR 48 0), (1, aI (gI Y5.1 48 0 33))]) (st' := []) (cs' := [allw 48 0]) (fun _ => rfl) rfl (al1 rfl) ?_
            replace h := wr_some h
            generalize (sI Y24 48 0 33 ((gI Y5.1 48 0 33) + (nI 1))) = Y26 at h ⊢
            obtain rfl := Option.some.inj h
            exact w_return k285 ⟨rfl, rfl⟩
    · replace h := if_t c h
      obtain rfl := Option.some.inj h
      exact w_return k285 ⟨rfl, rfl⟩
  refine w_sg k285 4 (pc' := 6) (ls' := [(0, aR 48 0)]) (st' := [aI (nI 5), aI (gI Y.1 48 0 33), aR 48 0]) (cs' := []) (fun _ => rfl) al0 ?_
  refine w_icmp_ge k285 rfl (fun c => ?_) (fun c => ?_)
  · replace h := if_t c h
    refine w_sg k285 1 (pc' := 14) (ls' := [(0, aR 48 0)]) (st' := [aI (nI 0), aR 48 0]) (cs' := []) (fun _ => rfl) al0 ?_
    refine w_ls [(0, aR 48 0)] (lq_c rfl lq_n) ?_
    exact J14_0 _ _ h
  · replace h := if_f c h
    refine w_sg k285 2 (pc' := 14) (ls' := [(0, aR 48 0)]) (st' := [aI (nI 1), aR 48 0]) (cs' := []) (fun _ => rfl) al0 ?_
    refine w_ls [(0, aR 48 0)] (lq_c rfl lq_n) ?_
    exact J14_0 _ _ h
set_option maxRecDepth 20000 in
set_option maxHeartbeats 4000000 in
/-- BallotBusModel.statement -/
theorem sn_291 {Y : Sm} (v : Unit) (Z : Sm) (h : fn_291 Y = some (v, Z)) : Mt 11 0 291 [aR 48 0] Y (Rt none Z) nX := by
  refine Mt_of [(0, aR 48 0)] ?_
  generalize ho : (v, Z) = o at h
  have hv9 : v = o.1 := congrArg Prod.fst ho
  have hZ9 : Z = o.2 := congrArg Prod.snd ho
  clear ho
  subst hv9 hZ9
  unfold fn_291 at h
  have J116_0 : ∀ (Y : Sm), fn_291_J116 Y = some o → Wm 11 0 291 0 116 [(0, aR 48 0)] [] Y (Rt none o.2) nX := by
    intro Y h
    unfold fn_291_J116 at h
    refine w_sg k291 4 (pc' := 122) (ls' := [(0, aR 48 0)]) (st' := [aI (nI 3), aI (gI Y.1 48 0 27), aR 48 0]) (cs' := []) (fun _ => rfl) al0 ?_
    refine w_icmp_ne k291 rfl (fun c => ?_) (fun c => ?_)
    · replace h := if_f c h
      refine w_sg k291 2 (pc' := 131) (ls' := [(0, aR 48 0)]) (st' := [aI (nI 1), aI (nI 0), aR 48 0]) (cs' := []) (fun _ => rfl) al0 ?_
      obtain ⟨_, Y12, hv13, h⟩ := bd_some h
      refine w_cV0 k291 (sn_277 _ _ _ _ hv13) rfl (st := []) rfl ?_ (fun _ _ q => q.elim)
      refine w_sg k291 1 (pc' := 135) (ls' := [(0, aR 48 0)]) (st' := [aR 48 0]) (cs' := []) (fun _ => rfl) al0 ?_
      obtain ⟨_, Y14, hv15, h⟩ := bd_some h
      refine w_cV0 k291 (sn_278  _ _ hv15) rfl (st := []) rfl ?_ (fun _ _ q => q.elim)
      obtain rfl := Option.some.inj h
      exact w_return k291 ⟨rfl, rfl⟩
    · replace h := if_t c h
      refine w_sg k291 3 (pc' := 131) (ls' := [(0, aR 48 0)]) (st' := [aI (nI 1), aI (nI 1), aR 48 0]) (cs' := []) (fun _ => rfl) al0 ?_
      obtain ⟨_, Y16, hv17, h⟩ := bd_some h
      refine w_cV0 k291 (sn_277 _ _ _ _ hv17) rfl (st := []) rfl ?_ (fun _ _ q => q.elim)
      refine w_sg k291 1 (pc' := 135) (ls' := [(0, aR 48 0)]) (st' := [aR 48 0]) (cs' := []) (fun _ => rfl) al0 ?_
      obtain ⟨_, Y18, hv19, h⟩ := bd_some h
      refine w_cV0 k291 (sn_278  _ _ hv19) rfl (st := []) rfl ?_ (fun _ _ q => q.elim)
      obtain rfl := Option.some.inj h
      exact w_return k291 ⟨rfl, rfl⟩
  have J110_0 : ∀ (Y : Sm), fn_291_J110 Y = some o → Wm 11 0 291 0 110 [(0, aR 48 0)] [] Y (Rt none o.2) nX := by
    intro Y h
    unfold fn_291_J110 at h
    refine w_sg k291 3 (pc' := 113) (ls' := [(0, aR 48 0)]) (st' := [aI (nI 1), aI (nI 0), aR 48 0]) (cs' := []) (fun _ => rfl) al0 ?_
    obtain ⟨_, Y10, hv11, h⟩ := bd_some h
    refine w_cV0 k291 (sn_277 _ _ _ _ hv11) rfl (st := []) rfl ?_ (fun _ _ q => q.elim)
    refine w_ls [(0, aR 48 0)] (lq_c rfl lq_n) ?_
    exact J116_0 _ h
  have J71_0 : ∀ (Y : Sm), fn_291_J71 Y = some o → Wm 11 0 291 0 71 [(0, aR 48 0)] [] Y (Rt none o.2) nX := by
    intro Y h
    unfold fn_291_J71 at h
    refine w_sg k291 3 (pc' := 76) (ls' := [(0, aR 48 0)]) (st' := [aI (nI 1), aI (gI Y.1 48 0 27)]) (cs' := []) (fun _ => rfl) al0 ?_
    refine w_icmp_ne k291 rfl (fun c => ?_) (fun c => ?_)
    · replace h := if_f c h
      refine w_ls [(0, aR 48 0)] (lq_c rfl lq_n) ?_
      exact J110_0 _ h
    · replace h := if_t c h
      refine w_sg k291 5 (pc' := 90) (ls' := [(0, aR 48 0)]) (st' := [aJ (((nI 15)).toInt64), aJ (((nI 11)).toInt64), aJ ((gI Y.1 48 0 28).toInt64)]) (cs' := []) (fun _ => rfl) al0 ?_
      obtain ⟨v22, Y20, hv21, h⟩ := bd_some h
      refine w_cS1 k291 (sn_166 _ _ _ _ _ hv21) rfl (st := []) rfl ?_ (fun _ _ q => q.elim)
      refine w_if_eq k291 rfl (fun c => ?_) (fun c => ?_)
      · replace h := if_t c h
        refine w_ls [(0, aR 48 0)] (lq_c rfl lq_n) ?_
        exact J110_0 _ h
      · replace h := if_f c h
        refine w_sg k291 5 (pc' := 104) (ls' := [(0, aR 48 0)]) (st' := [aI ((gI Y20.1 48 0 28) - (nI 10)), aR 48 0]) (cs' := []) (fun _ => rfl) al0 ?_
        obtain ⟨_, Y23, hv24, h⟩ := bd_some h
        refine w_cV0 k291 (sn_289 _ _ _ hv24) rfl (st := []) rfl ?_ (fun _ _ q => q.elim)
        refine w_sg k291 1 (pc' := 116) (ls' := [(0, aR 48 0)]) (st' := []) (cs' := []) (fun _ => rfl) al0 ?_
        refine w_ls [(0, aR 48 0)] (lq_c rfl lq_n) ?_
        exact J116_0 _ h
  refine w_sg k291 2 (pc' := 2) (ls' := [(0, aR 48 0)]) (st' := [aI (nI 0), aR 48 0]) (cs' := []) (fun _ => rfl) al0 ?_
  obtain ⟨v3, Y1, hv2, h⟩ := bd_some h
  refine w_cV1 k291 (sn_279 _ _ _ hv2) rfl (st := []) rfl ?_ (fun _ _ q => q.elim)
  refine w_if_eq k291 rfl (fun c => ?_) (fun c => ?_)
  · replace h := if_t c h
    refine w_sg k291 2 (pc' := 17) (ls' := [(0, aR 48 0)]) (st' := [aI (nI 4), aR 48 0]) (cs' := []) (fun _ => rfl) al0 ?_
    obtain ⟨v6, Y4, hv5, h⟩ := bd_some h
    refine w_cV1 k291 (sn_279 _ _ _ hv5) rfl (st := []) rfl ?_ (fun _ _ q => q.elim)
    refine w_if_eq k291 rfl (fun c => ?_) (fun c => ?_)
    · replace h := if_t c h
      refine w_sg k291 2 (pc' := 33) (ls' := [(0, aR 48 0)]) (st' := [aI (nI 16), aR 48 0]) (cs' := []) (fun _ => rfl) al0 ?_
      obtain ⟨v9, Y7, hv8, h⟩ := bd_some h
      refine w_cV1 k291 (sn_279 _ _ _ hv8) rfl (st := []) rfl ?_ (fun _ _ q => q.elim)
      refine w_if_eq k291 rfl (fun c => ?_) (fun c => ?_)
      · replace h := if_t c h
        refine w_sg k291 3 (pc' := 51) (ls' := [(0, aR 48 0)]) (st' := [aI (nI 1), aI (gI Y7.1 48 0 27)]) (cs' := []) (fun _ => rfl) al0 ?_
        refine w_icmp_ne k291 rfl (fun c => ?_) (fun c => ?_)
        · replace h := if_f c h
          refine w_ls [(0, aR 48 0)] (lq_c rfl lq_n) ?_
          exact J71_0 _ h
        · replace h := if_t c h
          refine w_sg k291 3 (pc' := 60) (ls' := [(0, aR 48 0)]) (st' := [aI (nI 7), aI (gI Y7.1 48 0 28)]) (cs' := []) (fun _ => rfl) al0 ?_
          refine w_icmp_ne k291 rfl (fun c => ?_) (fun c => ?_)
          · replace h := if_f c h
            refine w_ls [(0, aR 48 0)] (lq_c rfl lq_n) ?_
            exact J71_0 _ h
          · replace h := if_t c h
            refine w_sg k291 2 (pc' := 65) (ls' := [(0, aR 48 0)]) (st' := [aI (nI 0), aR 48 0]) (cs' := []) (fun _ => rfl) al0 ?_
            obtain ⟨_, Y25, hv26, h⟩ := bd_some h
            refine w_cV0 k291 (sn_289 _ _ _ hv26) rfl (st := []) rfl ?_ (fun _ _ q => q.elim)
            refine w_sg k291 1 (pc' := 116) (ls' := [(0, aR 48 0)]) (st' := []) (cs' := []) (fun _ => rfl) al0 ?_
            refine w_ls [(0, aR 48 0)] (lq_c rfl lq_n) ?_
            exact J116_0 _ h
      · replace h := if_f c h
        refine w_sg k291 1 (pc' := 40) (ls' := [(0, aR 48 0)]) (st' := [aR 48 0]) (cs' := []) (fun _ => rfl) al0 ?_
        obtain ⟨_, Y27, hv28, h⟩ := bd_some h
        refine w_cV0 k291 (sn_290  _ _ hv28) rfl (st := []) rfl ?_ (fun _ _ q => q.elim)
        refine w_sg k291 1 (pc' := 116) (ls' := [(0, aR 48 0)]) (st' := []) (cs' := []) (fun _ => rfl) al0 ?_
        refine w_ls [(0, aR 48 0)] (lq_c rfl lq_n) ?_
        exact J116_0 _ h
    · replace h := if_f c h
      refine w_sg k291 1 (pc' := 24) (ls' := [(0, aR 48 0)]) (st' := [aR 48 0]) (cs' := []) (fun _ => rfl) al0 ?_
      obtain ⟨_, Y29, hv30, h⟩ := bd_some h
      refine w_cV0 k291 (sn_286  _ _ hv30) rfl (st := []) rfl ?_ (fun _ _ q => q.elim)
      refine w_sg k291 1 (pc' := 116) (ls' := [(0, aR 48 0)]) (st' := []) (cs' := []) (fun _ => rfl) al0 ?_
      refine w_ls [(0, aR 48 0)] (lq_c rfl lq_n) ?_
      exact J116_0 _ h
  · replace h := if_f c h
    refine w_sg k291 1 (pc' := 9) (ls' := [(0, aR 48 0)]) (st' := [aR 48 0]) (cs' := []) (fun _ => rfl) al0 ?_
    obtain ⟨_, Y31, hv32, h⟩ := bd_some h
    refine w_cV0 k291 (sn_285  _ _ hv32) rfl (st := []) rfl ?_ (fun _ _ q => q.elim)
    refine w_sg k291 1 (pc' := 116) (ls' := [(0, aR 48 0)]) (st' := []) (cs' := []) (fun _ => rfl) al0 ?_
    refine w_ls [(0, aR 48 0)] (lq_c rfl lq_n) ?_
    exact J116_0 _ h
set_option maxRecDepth 20000 in
set_option maxHeartbeats 4000000 in
/-- BallotBusModel.copies -/
theorem sn_170_53_52 {Y : Sm} (v : Unit) (Z : Sm) (h : fn_170_53_52 Y = some (v, Z)) : Mt 4 0 170 [aR 53 0, aR 52 0] Y (Rt none Z) nX := by
  refine Mt_of [(0, aR 53 0), (1, aR 52 0)] ?_
  generalize ho : (v, Z) = o at h
  have hv9 : v = o.1 := congrArg Prod.fst ho
  have hZ9 : Z = o.2 := congrArg Prod.snd ho
  clear ho
  subst hv9 hZ9
  unfold fn_170_53_52 at h
  have L2_0 : ∀ (n : Nat) (l2 : Int32) (Y : Sm), lp (fun s => fn_170_53_52_L2 s.1 s.2) n (l2, Y) = some o → Wm 4 0 170 0 2 [(0, aR 53 0), (1, aR 52 0), (2, aI l2)] [] Y (Rt none o.2) nX := by
    intro n
    induction n with
    | zero => intro l2 Y h; cases h
    | succ n ih3 =>
      intro l2 Y h
      obtain ⟨q1, h, hn2⟩ := lp_succ h
      replace h : fn_170_53_52_L2 l2 Y = some q1 := h
      unfold fn_170_53_52_L2 at h
      refine w_sg k170 2 (pc' := 6) (ls' := [(0, aR 53 0), (1, aR 52 0), (2, aI l2)]) (st' := [aI (nI 718), aI l2]) (cs' := []) (fun _ => rfl) al0 ?_
      refine w_icmp_ge k170 rfl (fun c => ?_) (fun c => ?_)
      · replace h := if_t c h
        obtain rfl := Option.some.inj h
        obtain rfl := lpn_r hn2
        exact w_return k170 ⟨rfl, rfl⟩
      · replace h := if_f c h
        obtain ⟨hc4, h⟩ := ck_some h
        refine w_sw k170 6 (Z := (sI Y 52 0 (ix l2) (gI Y.1 53 0 (ix l2)))) (pc' := 15) (ls' := [(0, aR 53 0), (1, aR 52 0), (2, aI l2)]) (st' := []) (cs' := [vp_in l2 718, vp_in l2 718, allw 52 0]) (fun _ => rfl) rfl (al2 (vin hc4) (al2 (vin hc4) (al1 rfl))) ?_
        replace h := wr_some h
        generalize (sI Y 52 0 (ix l2) (gI Y.1 53 0 (ix l2))) = Y5 at h ⊢
        refine w_sg k170 2 (pc' := 2) (ls' := [(0, aR 53 0), (1, aR 52 0), (2, aI (l2 + (nI 1)))]) (st' := []) (cs' := []) (fun _ => rfl) al0 ?_
        refine w_ls [(0, aR 53 0), (1, aR 52 0), (2, aI (l2 + (nI 1)))] (lq_c rfl (lq_c rfl (lq_c rfl lq_n))) ?_
        obtain rfl := Option.some.inj h
        exact ih3 _ _ (lpn_l hn2)
  refine w_sg k170 2 (pc' := 2) (ls' := [(0, aR 53 0), (1, aR 52 0), (2, aI (nI 0))]) (st' := []) (cs' := []) (fun _ => rfl) al0 ?_
  refine w_ls [(0, aR 53 0), (1, aR 52 0), (2, aI (nI 0))] (lq_c rfl (lq_c rfl (lq_c rfl lq_n))) ?_
  exact L2_0 _ _ _ h
set_option maxRecDepth 20000 in
set_option maxHeartbeats 4000000 in
/-- BallotBusModel.takesDraft -/
theorem sn_269 {Y : Sm} (v : Unit) (Z : Sm) (h : fn_269 Y = some (v, Z)) : Mt 5 0 269 [aR 48 0] Y (Rt none Z) nX := by
  refine Mt_of [(0, aR 48 0)] ?_
  generalize ho : (v, Z) = o at h
  have hv9 : v = o.1 := congrArg Prod.fst ho
  have hZ9 : Z = o.2 := congrArg Prod.snd ho
  clear ho
  subst hv9 hZ9
  unfold fn_269 at h
  have L68_0 : ∀ (n : Nat) (l1 : Int32) (Y : Sm) (e11 : (Sm) ⊕ (Unit × Sm)), lp (fun s => fn_269_L68 s.1 s.2) n (l1, Y) = some e11 → (∀ s9 : (Sm), e11 = .inl s9 → Wm 5 0 269 0 94 [(0, aR 48 0)] [] s9 (Rt none o.2) nX) → (∀ r, e11 = .inr r → r = o) → Wm 5 0 269 0 68 [(0, aR 48 0), (1, aI l1)] [] Y (Rt none o.2) nX := by
    intro n
    induction n with
    | zero => intro l1 Y e11 h; cases h
    | succ n ih10 =>
      intro l1 Y e11 h kE12 kR13
      obtain ⟨q8, h, hn9⟩ := lp_succ h
      replace h : fn_269_L68 l1 Y = some q8 := h
      unfold fn_269_L68 at h
      refine w_sg k269 3 (pc' := 73) (ls' := [(0, aR 48 0), (1, aI l1)]) (st' := [aI (gI Y.1 48 0 1), aI l1]) (cs' := []) (fun _ => rfl) al0 ?_
      refine w_icmp_ge k269 rfl (fun c => ?_) (fun c => ?_)
      · replace h := if_t c h
        refine w_ls [(0, aR 48 0)] (lq_c rfl lq_n) ?_
        obtain rfl := Option.some.inj h
        obtain rfl := lpn_r hn9
        exact kE12 _ rfl
      · replace h := if_f c h
        obtain ⟨hc14, h⟩ := ck_some h
        refine w_sw k269 8 (Z := (sJ Y 50 0 (ix l1) (gJ Y.1 63 0 (ix l1)))) (pc' := 88) (ls' := [(0, aR 48 0), (1, aI l1)]) (st' := []) (cs' := [vp_in l1 5, vp_in l1 5, allw 50 0]) (fun _ => rfl) rfl (al2 (vin hc14) (al2 (vin hc14) (al1 rfl))) ?_
        replace h := wr_some h
        generalize (sJ Y 50 0 (ix l1) (gJ Y.1 63 0 (ix l1))) = Y15 at h ⊢
        refine w_sg k269 2 (pc' := 68) (ls' := [(0, aR 48 0), (1, aI (l1 + (nI 1)))]) (st' := []) (cs' := []) (fun _ => rfl) al0 ?_
        refine w_ls [(0, aR 48 0), (1, aI (l1 + (nI 1)))] (lq_c rfl (lq_c rfl lq_n)) ?_
        obtain rfl := Option.some.inj h
        exact ih10 _ _ _ (lpn_l hn9) kE12 kR13
  have L96_0 : ∀ (n : Nat) (l1 : Int32) (Y : Sm) (e19 : (Sm) ⊕ (Unit × Sm)), lp (fun s => fn_269_L96 s.1 s.2) n (l1, Y) = some e19 → (∀ s9 : (Sm), e19 = .inl s9 → Wm 5 0 269 0 134 [(0, aR 48 0)] [] s9 (Rt none o.2) nX) → (∀ r, e19 = .inr r → r = o) → Wm 5 0 269 0 96 [(0, aR 48 0), (1, aI l1)] [] Y (Rt none o.2) nX := by
    intro n
    induction n with
    | zero => intro l1 Y e19 h; cases h
    | succ n ih18 =>
      intro l1 Y e19 h kE20 kR21
      obtain ⟨q16, h, hn17⟩ := lp_succ h
      replace h : fn_269_L96 l1 Y = some q16 := h
      unfold fn_269_L96 at h
      refine w_sg k269 3 (pc' := 101) (ls' := [(0, aR 48 0), (1, aI l1)]) (st' := [aI (gI Y.1 48 0 2), aI l1]) (cs' := []) (fun _ => rfl) al0 ?_
      refine w_icmp_ge k269 rfl (fun c => ?_) (fun c => ?_)
      · replace h := if_t c h
        refine w_ls [(0, aR 48 0)] (lq_c rfl lq_n) ?_
        obtain rfl := Option.some.inj h
        obtain rfl := lpn_r hn17
        exact kE20 _ rfl
      · replace h := if_f c h
        obtain ⟨hc22, h⟩ := ck_some h
        refine w_sw k269 8 (Z := (sJ Y 51 0 (ix l1) (gJ Y.1 64 0 (ix l1)))) (pc' := 116) (ls' := [(0, aR 48 0), (1, aI l1)]) (st' := []) (cs' := [vp_in l1 8, vp_in l1 8, allw 51 0]) (fun _ => rfl) rfl (al2 (vin hc22) (al2 (vin hc22) (al1 rfl))) ?_
        replace h := wr_some h
        generalize (sJ Y 51 0 (ix l1) (gJ Y.1 64 0 (ix l1))) = Y23 at h ⊢
        refine w_sw k269 8 (Z := (sI Y23 49 0 (ix l1) (gI Y23.1 62 0 (ix l1)))) (pc' := 128) (ls' := [(0, aR 48 0), (1, aI l1)]) (st' := []) (cs' := [vp_in l1 8, vp_in l1 8, allw 49 0]) (fun _ => rfl) rfl (al2 (vin hc22) (al2 (vin hc22) (al1 rfl))) ?_
        replace h := wr_some h
        generalize (sI Y23 49 0 (ix l1) (gI Y23.1 62 0 (ix l1))) = Y24 at h ⊢
        refine w_sg k269 2 (pc' := 96) (ls' := [(0, aR 48 0), (1, aI (l1 + (nI 1)))]) (st' := []) (cs' := []) (fun _ => rfl) al0 ?_
        refine w_ls [(0, aR 48 0), (1, aI (l1 + (nI 1)))] (lq_c rfl (lq_c rfl lq_n)) ?_
        obtain rfl := Option.some.inj h
        exact ih18 _ _ _ (lpn_l hn17) kE20 kR21
  have L147_0 : ∀ (n : Nat) (l1 : Int32) (Y : Sm) (e30 : (Sm) ⊕ (Unit × Sm)), lp (fun s => fn_269_L147 s.1 s.2) n (l1, Y) = some e30 → (∀ s9 : (Sm), e30 = .inl s9 → Wm 5 0 269 0 171 [(0, aR 48 0)] [] s9 (Rt none o.2) nX) → (∀ r, e30 = .inr r → r = o) → Wm 5 0 269 0 147 [(0, aR 48 0), (1, aI l1)] [] Y (Rt none o.2) nX := by
    intro n
    induction n with
    | zero => intro l1 Y e30 h; cases h
    | succ n ih29 =>
      intro l1 Y e30 h kE31 kR32
      obtain ⟨q27, h, hn28⟩ := lp_succ h
      replace h : fn_269_L147 l1 Y = some q27 := h
      unfold fn_269_L147 at h
      refine w_sg k269 3 (pc' := 152) (ls' := [(0, aR 48 0), (1, aI l1)]) (st' := [aI (gI Y.1 48 0 1), aI l1]) (cs' := []) (fun _ => rfl) al0 ?_
      refine w_icmp_ge k269 rfl (fun c => ?_) (fun c => ?_)
      · replace h := if_t c h
        refine w_ls [(0, aR 48 0)] (lq_c rfl lq_n) ?_
        obtain rfl := Option.some.inj h
        obtain rfl := lpn_r hn28
        exact kE31 _ rfl
      · replace h := if_f c h
        obtain ⟨hc33, h⟩ := ck_some h
        refine w_sw k269 7 (Z := (sI Y 52 0 (ix ((nI 10) + l1)) l1)) (pc' := 165) (ls' := [(0, aR 48 0), (1, aI l1)]) (st' := []) (cs' := [vp_in ((nI 10) + l1) 718, allw 52 0]) (fun _ => rfl) rfl (al2 (vin hc33) (al1 rfl)) ?_
        replace h := wr_some h
        generalize (sI Y 52 0 (ix ((nI 10) + l1)) l1) = Y34 at h ⊢
        refine w_sg k269 2 (pc' := 147) (ls' := [(0, aR 48 0), (1, aI (l1 + (nI 1)))]) (st' := []) (cs' := []) (fun _ => rfl) al0 ?_
        refine w_ls [(0, aR 48 0), (1, aI (l1 + (nI 1)))] (lq_c rfl (lq_c rfl lq_n)) ?_
        obtain rfl := Option.some.inj h
        exact ih29 _ _ _ (lpn_l hn28) kE31 kR32
  have L173_0 : ∀ (n : Nat) (l1 : Int32) (Y : Sm), lp (fun s => fn_269_L173 s.1 s.2) n (l1, Y) = some o → Wm 5 0 269 0 173 [(0, aR 48 0), (1, aI l1)] [] Y (Rt none o.2) nX := by
    intro n
    induction n with
    | zero => intro l1 Y h; cases h
    | succ n ih37 =>
      intro l1 Y h
      obtain ⟨q35, h, hn36⟩ := lp_succ h
      replace h : fn_269_L173 l1 Y = some q35 := h
      unfold fn_269_L173 at h
      have L183_0 : ∀ (l1 : Int32) (n : Nat) (l2 : Int32) (Y : Sm), lp (fun s => fn_269_L183_d1 l1 s.1 s.2) n (l2, Y) = some q35 → Wm 5 0 269 0 183 [(0, aR 48 0), (1, aI l1), (2, aI l2)] [] Y (Rt none o.2) nX := by
        intro l1 n
        induction n with
        | zero => intro l2 Y h; cases h
        | succ n ih42 =>
          intro l2 Y h
          obtain ⟨q40, h, hn41⟩ := lp_succ h
          replace h : fn_269_L183_d1 l1 l2 Y = some q40 := h
          unfold fn_269_L183_d1 at h
          refine w_sg k269 3 (pc' := 188) (ls' := [(0, aR 48 0), (1, aI l1), (2, aI l2)]) (st' := [aI (gI Y.1 48 0 1), aI l2]) (cs' := []) (fun _ => rfl) al0 ?_
          refine w_icmp_ge k269 rfl (fun c => ?_) (fun c => ?_)
          · replace h := if_t c h
            refine w_sg k269 2 (pc' := 173) (ls' := [(0, aR 48 0), (1, aI (l1 + (nI 1))), (2, aI l2)]) (st' := []) (cs' := []) (fun _ => rfl) al0 ?_
            refine w_ls [(0, aR 48 0), (1, aI (l1 + (nI 1)))] (lq_c rfl (lq_c rfl lq_n)) ?_
            obtain rfl := Option.some.inj h
            obtain rfl := lpn_r hn41
            exact ih37 _ _ (lpn_l hn36)
          · replace h := if_f c h
            obtain ⟨hc43, h⟩ := ck_some h
            refine w_sw k269 11 (Z := (sI Y 52 0 (ix (((nI 78) + ((nI 5) * l1)) + l2)) l2)) (pc' := 205) (ls' := [(0, aR 48 0), (1, aI l1), (2, aI l2)]) (st' := []) (cs' := [vp_in (((nI 78) + ((nI 5) * l1)) + l2) 718, allw 52 0]) (fun _ => rfl) rfl (al2 (vin hc43) (al1 rfl)) ?_
            replace h := wr_some h
            generalize (sI Y 52 0 (ix (((nI 78) + ((nI 5) * l1)) + l2)) l2) = Y44 at h ⊢
            refine w_sg k269 2 (pc' := 183) (ls' := [(0, aR 48 0), (1, aI l1), (2, aI (l2 + (nI 1)))]) (st' := []) (cs' := []) (fun _ => rfl) al0 ?_
            refine w_ls [(0, aR 48 0), (1, aI l1), (2, aI (l2 + (nI 1)))] (lq_c rfl (lq_c rfl (lq_c rfl lq_n))) ?_
            obtain rfl := Option.some.inj h
            exact ih42 _ _ (lpn_l hn41)
      refine w_sg k269 3 (pc' := 178) (ls' := [(0, aR 48 0), (1, aI l1)]) (st' := [aI (gI Y.1 48 0 2), aI l1]) (cs' := []) (fun _ => rfl) al0 ?_
      refine w_icmp_ge k269 rfl (fun c => ?_) (fun c => ?_)
      · replace h := if_t c h
        refine w_sw k269 3 (Z := (sI Y 48 0 17 (nI 0))) (pc' := 222) (ls' := [(0, aR 48 0), (1, aI l1)]) (st' := []) (cs' := [allw 48 0]) (fun _ => rfl) rfl (al1 rfl) ?_
        replace h := wr_some h
        generalize (sI Y 48 0 17 (nI 0)) = Y38 at h ⊢
        refine w_sw k269 3 (Z := (sI Y38 48 0 18 (nI 0))) (pc' := 227) (ls' := [(0, aR 48 0), (1, aI l1)]) (st' := []) (cs' := [allw 48 0, (nI 0) = 0 ∨ (nI 0) = 1]) (fun _ => rfl) rfl (al2 rfl (al1 (Or.inl rfl))) ?_
        replace h := wr_some h
        generalize (sI Y38 48 0 18 (nI 0)) = Y39 at h ⊢
        obtain rfl := Option.some.inj h
        obtain rfl := lpn_r hn36
        exact w_return k269 ⟨rfl, rfl⟩
      · replace h := if_f c h
        refine w_sg k269 2 (pc' := 183) (ls' := [(0, aR 48 0), (1, aI l1), (2, aI (nI 0))]) (st' := []) (cs' := []) (fun _ => rfl) al0 ?_
        refine w_ls [(0, aR 48 0), (1, aI l1), (2, aI (nI 0))] (lq_c rfl (lq_c rfl (lq_c rfl lq_n))) ?_
        exact L183_0 _ _ _ _ h
  have J171_0 : ∀ (Y : Sm), fn_269_J171 Y = some o → Wm 5 0 269 0 171 [(0, aR 48 0)] [] Y (Rt none o.2) nX := by
    intro Y h
    unfold fn_269_J171 at h
    refine w_sg k269 2 (pc' := 173) (ls' := [(0, aR 48 0), (1, aI (nI 0))]) (st' := []) (cs' := []) (fun _ => rfl) al0 ?_
    refine w_ls [(0, aR 48 0), (1, aI (nI 0))] (lq_c rfl (lq_c rfl lq_n)) ?_
    exact L173_0 _ _ _ h
  have J134_0 : ∀ (Y : Sm), fn_269_J134 Y = some o → Wm 5 0 269 0 134 [(0, aR 48 0)] [] Y (Rt none o.2) nX := by
    intro Y h
    unfold fn_269_J134 at h
    refine w_sg k269 4 (pc' := 142) (ls' := [(0, aR 48 0)]) (st' := [aR 52 0, aR 53 0]) (cs' := []) (fun _ => rfl) al0 ?_
    obtain ⟨_, Y25, hv26, h⟩ := bd_some h
    refine w_cS0 k269 (sn_170_53_52  _ _ hv26) rfl (st := []) rfl ?_ (fun _ _ q => q.elim)
    refine w_sg k269 2 (pc' := 147) (ls' := [(0, aR 48 0), (1, aI (nI 0))]) (st' := []) (cs' := []) (fun _ => rfl) al0 ?_
    obtain ⟨e47, hl45, hx46⟩ := exd_some h
    refine w_ls [(0, aR 48 0), (1, aI (nI 0))] (lq_c rfl (lq_c rfl lq_n)) ?_
    refine L147_0 _ _ _ e47 hl45 (fun s9 hs9 => ?_) (fun r9 hr9 => ?_)
    · subst hs9
      replace h : fn_269_J171 s9 = some o := hx46
      refine w_ls [(0, aR 48 0)] (lq_c rfl lq_n) ?_
      exact J171_0 _ h
    · subst hr9
      exact hx46
  have J94_0 : ∀ (Y : Sm), fn_269_J94 Y = some o → Wm 5 0 269 0 94 [(0, aR 48 0)] [] Y (Rt none o.2) nX := by
    intro Y h
    unfold fn_269_J94 at h
    refine w_sg k269 2 (pc' := 96) (ls' := [(0, aR 48 0), (1, aI (nI 0))]) (st' := []) (cs' := []) (fun _ => rfl) al0 ?_
    obtain ⟨e50, hl48, hx49⟩ := exd_some h
    refine w_ls [(0, aR 48 0), (1, aI (nI 0))] (lq_c rfl (lq_c rfl lq_n)) ?_
    refine L96_0 _ _ _ e50 hl48 (fun s9 hs9 => ?_) (fun r9 hr9 => ?_)
    · subst hs9
      replace h : fn_269_J134 s9 = some o := hx49
      refine w_ls [(0, aR 48 0)] (lq_c rfl lq_n) ?_
      exact J134_0 _ h
    · subst hr9
      exact hx49
  refine w_sw k269 4 (Z := (sI Y 48 0 1 (gI Y.1 48 0 33))) (pc' := 8) (ls' := [(0, aR 48 0)]) (st' := []) (cs' := [allw 48 0]) (fun _ => rfl) rfl (al1 rfl) ?_
  replace h := wr_some h
  generalize (sI Y 48 0 1 (gI Y.1 48 0 33)) = Y1 at h ⊢
  refine w_sw k269 4 (Z := (sI Y1 48 0 2 (gI Y1.1 48 0 34))) (pc' := 16) (ls' := [(0, aR 48 0)]) (st' := []) (cs' := [allw 48 0]) (fun _ => rfl) rfl (al1 rfl) ?_
  replace h := wr_some h
  generalize (sI Y1 48 0 2 (gI Y1.1 48 0 34)) = Y2 at h ⊢
  refine w_sw k269 6 (Z := (sI Y2 48 0 3 (gI Y2.1 61 0 0))) (pc' := 26) (ls' := [(0, aR 48 0)]) (st' := []) (cs' := [vp_in (nI 0) 5, allw 48 0]) (fun _ => rfl) rfl (al2 (vin rfl) (al1 rfl)) ?_
  replace h := wr_some h
  generalize (sI Y2 48 0 3 (gI Y2.1 61 0 0)) = Y3 at h ⊢
  refine w_sw k269 6 (Z := (sI Y3 48 0 4 (gI Y3.1 61 0 1))) (pc' := 36) (ls' := [(0, aR 48 0)]) (st' := []) (cs' := [vp_in (nI 1) 5, allw 48 0]) (fun _ => rfl) rfl (al2 (vin rfl) (al1 rfl)) ?_
  replace h := wr_some h
  generalize (sI Y3 48 0 4 (gI Y3.1 61 0 1)) = Y4 at h ⊢
  refine w_sw k269 6 (Z := (sI Y4 48 0 5 (gI Y4.1 61 0 2))) (pc' := 46) (ls' := [(0, aR 48 0)]) (st' := []) (cs' := [vp_in (nI 2) 5, allw 48 0]) (fun _ => rfl) rfl (al2 (vin rfl) (al1 rfl)) ?_
  replace h := wr_some h
  generalize (sI Y4 48 0 5 (gI Y4.1 61 0 2)) = Y5 at h ⊢
  refine w_sw k269 6 (Z := (sI Y5 48 0 6 (gI Y5.1 61 0 3))) (pc' := 56) (ls' := [(0, aR 48 0)]) (st' := []) (cs' := [vp_in (nI 3) 5, allw 48 0]) (fun _ => rfl) rfl (al2 (vin rfl) (al1 rfl)) ?_
  replace h := wr_some h
  generalize (sI Y5 48 0 6 (gI Y5.1 61 0 3)) = Y6 at h ⊢
  refine w_sw k269 6 (Z := (sI Y6 48 0 7 (gI Y6.1 61 0 4))) (pc' := 66) (ls' := [(0, aR 48 0)]) (st' := []) (cs' := [vp_in (nI 4) 5, allw 48 0]) (fun _ => rfl) rfl (al2 (vin rfl) (al1 rfl)) ?_
  replace h := wr_some h
  generalize (sI Y6 48 0 7 (gI Y6.1 61 0 4)) = Y7 at h ⊢
  refine w_sg k269 2 (pc' := 68) (ls' := [(0, aR 48 0), (1, aI (nI 0))]) (st' := []) (cs' := []) (fun _ => rfl) al0 ?_
  obtain ⟨e53, hl51, hx52⟩ := exd_some h
  refine w_ls [(0, aR 48 0), (1, aI (nI 0))] (lq_c rfl (lq_c rfl lq_n)) ?_
  refine L68_0 _ _ _ e53 hl51 (fun s9 hs9 => ?_) (fun r9 hr9 => ?_)
  · subst hs9
    replace h : fn_269_J94 s9 = some o := hx52
    refine w_ls [(0, aR 48 0)] (lq_c rfl lq_n) ?_
    exact J94_0 _ h
  · subst hr9
    exact hx52
set_option maxRecDepth 20000 in
set_option maxHeartbeats 4000000 in
/-- BallotBusModel.parse -/
theorem sn_292 {Y : Sm} (v : Int32) (Z : Sm) (h : fn_292 Y = some (v, Z)) : Mt 12 0 292 [aR 48 0] Y (Rt (some (aI v)) Z) nX := by
  refine Mt_of [(0, aR 48 0)] ?_
  generalize ho : (v, Z) = o at h
  have hv9 : v = o.1 := congrArg Prod.fst ho
  have hZ9 : Z = o.2 := congrArg Prod.snd ho
  clear ho
  subst hv9 hZ9
  unfold fn_292 at h
  have L41_0 : ∀ (n : Nat) (Y : Sm) (e14 : (Sm) ⊕ (Int32 × Sm)), lp (fun s => fn_292_L41 s) n (Y) = some e14 → (∀ s9 : (Sm), e14 = .inl s9 → Wm 12 0 292 0 62 [(0, aR 48 0)] [] s9 (Rt (some (aI o.1)) o.2) nX) → (∀ r, e14 = .inr r → r = o) → Wm 12 0 292 0 41 [(0, aR 48 0)] [] Y (Rt (some (aI o.1)) o.2) nX := by
    intro n
    induction n with
    | zero => intro Y e14 h; cases h
    | succ n ih13 =>
      intro Y e14 h kE15 kR16
      obtain ⟨q11, h, hn12⟩ := lp_succ h
      replace h : fn_292_L41 Y = some q11 := h
      unfold fn_292_L41 at h
      refine w_sg k292 1 (pc' := 42) (ls' := [(0, aR 48 0)]) (st' := [aR 48 0]) (cs' := []) (fun _ => rfl) al0 ?_
      obtain ⟨v19, Y17, hv18, h⟩ := bd_some h
      refine w_cV1 k292 (sn_276  _ _ hv18) rfl (st := []) rfl ?_ (fun _ _ q => q.elim)
      refine w_if_eq k292 rfl (fun c => ?_) (fun c => ?_)
      · replace h := if_t c h
        refine w_ls [(0, aR 48 0)] (lq_c rfl lq_n) ?_
        obtain rfl := Option.some.inj h
        obtain rfl := lpn_r hn12
        exact kE15 _ rfl
      · replace h := if_f c h
        refine w_sg k292 2 (pc' := 52) (ls' := [(0, aR 48 0)]) (st' := [aI (gI Y17.1 48 0 27)]) (cs' := []) (fun _ => rfl) al0 ?_
        refine w_if_eq k292 rfl (fun c => ?_) (fun c => ?_)
        · replace h := if_t c h
          refine w_ls [(0, aR 48 0)] (lq_c rfl lq_n) ?_
          obtain rfl := Option.some.inj h
          obtain rfl := lpn_r hn12
          exact kE15 _ rfl
        · replace h := if_f c h
          refine w_sg k292 1 (pc' := 56) (ls' := [(0, aR 48 0)]) (st' := [aR 48 0]) (cs' := []) (fun _ => rfl) al0 ?_
          obtain ⟨_, Y20, hv21, h⟩ := bd_some h
          refine w_cV0 k292 (sn_291  _ _ hv21) rfl (st := []) rfl ?_ (fun _ _ q => q.elim)
          refine w_sg k292 1 (pc' := 41) (ls' := [(0, aR 48 0)]) (st' := []) (cs' := []) (fun _ => rfl) al0 ?_
          refine w_ls [(0, aR 48 0)] (lq_c rfl lq_n) ?_
          obtain rfl := Option.some.inj h
          exact ih13 _ _ (lpn_l hn12) kE15 kR16
  have J82_0 : ∀ (t0 : Int32) (Y : Sm), fn_292_J82 t0 Y = some o → Wm 12 0 292 0 82 [(0, aR 48 0)] [aI t0, aR 48 0] Y (Rt (some (aI o.1)) o.2) nX := by
    intro t0 Y h
    unfold fn_292_J82 at h
    refine w_sg k292 1 (pc' := 83) (ls' := [(0, aR 48 0)]) (st' := [aI (nI 5), aI t0, aR 48 0]) (cs' := []) (fun _ => rfl) al0 ?_
    obtain ⟨_, Y22, hv23, h⟩ := bd_some h
    refine w_cV0 k292 (sn_277 _ _ _ _ hv23) rfl (st := []) rfl ?_ (fun _ _ q => q.elim)
    refine w_sg k292 1 (pc' := 87) (ls' := [(0, aR 48 0)]) (st' := [aR 48 0]) (cs' := []) (fun _ => rfl) al0 ?_
    obtain ⟨v26, Y24, hv25, h⟩ := bd_some h
    refine w_cV1 k292 (sn_276  _ _ hv25) rfl (st := []) rfl ?_ (fun _ _ q => q.elim)
    refine w_if_ne k292 rfl (fun c => ?_) (fun c => ?_)
    · replace h := if_f c h
      refine w_sg k292 1 (pc' := 96) (ls' := [(0, aR 48 0)]) (st' := [aR 48 0]) (cs' := []) (fun _ => rfl) al0 ?_
      obtain ⟨_, Y27, hv28, h⟩ := bd_some h
      refine w_cV0 k292 (sn_269  _ _ hv28) rfl (st := []) rfl ?_ (fun _ _ q => q.elim)
      refine w_sg k292 2 (pc' := 103) (ls' := [(0, aR 48 0)]) (st' := [aI (gI Y27.1 48 0 1)]) (cs' := []) (fun _ => rfl) al0 ?_
      obtain rfl := Option.some.inj h
      exact w_ireturn k292 ⟨rfl, rfl⟩
    · replace h := if_t c h
      refine w_sg k292 1 (pc' := 94) (ls' := [(0, aR 48 0)]) (st' := [aI (-1 : Int32)]) (cs' := []) (fun _ => rfl) al0 ?_
      obtain rfl := Option.some.inj h
      exact w_ireturn k292 ⟨rfl, rfl⟩
  have J81_0 : ∀ (Y : Sm), fn_292_J81 Y = some o → Wm 12 0 292 0 81 [(0, aR 48 0)] [aR 48 0] Y (Rt (some (aI o.1)) o.2) nX := by
    intro Y h
    unfold fn_292_J81 at h
    refine w_sg k292 1 (pc' := 82) (ls' := [(0, aR 48 0)]) (st' := [aI (nI 0), aR 48 0]) (cs' := []) (fun _ => rfl) al0 ?_
    refine w_ls [(0, aR 48 0)] (lq_c rfl lq_n) ?_
    exact J82_0 _ _ h
  have J62_0 : ∀ (Y : Sm), fn_292_J62 Y = some o → Wm 12 0 292 0 62 [(0, aR 48 0)] [] Y (Rt (some (aI o.1)) o.2) nX := by
    intro Y h
    unfold fn_292_J62 at h
    refine w_sg k292 3 (pc' := 67) (ls' := [(0, aR 48 0)]) (st' := [aI (gI Y.1 48 0 33), aR 48 0]) (cs' := []) (fun _ => rfl) al0 ?_
    refine w_if_le k292 rfl (fun c => ?_) (fun c => ?_)
    · replace h := if_t c h
      refine w_ls [(0, aR 48 0)] (lq_c rfl lq_n) ?_
      exact J81_0 _ h
    · replace h := if_f c h
      refine w_sg k292 2 (pc' := 74) (ls' := [(0, aR 48 0)]) (st' := [aI (gI Y.1 48 0 34), aR 48 0]) (cs' := []) (fun _ => rfl) al0 ?_
      refine w_if_le k292 rfl (fun c => ?_) (fun c => ?_)
      · replace h := if_t c h
        refine w_ls [(0, aR 48 0)] (lq_c rfl lq_n) ?_
        exact J81_0 _ h
      · replace h := if_f c h
        refine w_sg k292 2 (pc' := 82) (ls' := [(0, aR 48 0)]) (st' := [aI (nI 1), aR 48 0]) (cs' := []) (fun _ => rfl) al0 ?_
        refine w_ls [(0, aR 48 0)] (lq_c rfl lq_n) ?_
        exact J82_0 _ _ h
  refine w_sw k292 3 (Z := (sI Y 48 0 0 (nI 0))) (pc' := 5) (ls' := [(0, aR 48 0)]) (st' := []) (cs' := [allw 48 0]) (fun _ => rfl) rfl (al1 rfl) ?_
  replace h := wr_some h
  generalize (sI Y 48 0 0 (nI 0)) = Y1 at h ⊢
  refine w_sw k292 3 (Z := (sI Y1 48 0 31 (nI 0))) (pc' := 10) (ls' := [(0, aR 48 0)]) (st' := []) (cs' := [allw 48 0]) (fun _ => rfl) rfl (al1 rfl) ?_
  replace h := wr_some h
  generalize (sI Y1 48 0 31 (nI 0)) = Y2 at h ⊢
  refine w_sw k292 3 (Z := (sI Y2 48 0 32 (-1 : Int32))) (pc' := 15) (ls' := [(0, aR 48 0)]) (st' := []) (cs' := [allw 48 0]) (fun _ => rfl) rfl (al1 rfl) ?_
  replace h := wr_some h
  generalize (sI Y2 48 0 32 (-1 : Int32)) = Y3 at h ⊢
  refine w_sg k292 1 (pc' := 16) (ls' := [(0, aR 48 0)]) (st' := [aR 48 0]) (cs' := []) (fun _ => rfl) al0 ?_
  obtain ⟨_, Y4, hv5, h⟩ := bd_some h
  refine w_cV0 k292 (sn_268  _ _ hv5) rfl (st := []) rfl ?_ (fun _ _ q => q.elim)
  refine w_sw k292 4 (Z := (sI Y4 48 0 24 (gI Y4.1 48 0 23))) (pc' := 27) (ls' := [(0, aR 48 0)]) (st' := []) (cs' := [allw 48 0]) (fun _ => rfl) rfl (al1 rfl) ?_
  replace h := wr_some h
  generalize (sI Y4 48 0 24 (gI Y4.1 48 0 23)) = Y6 at h ⊢
  refine w_sw k292 3 (Z := (sI Y6 48 0 23 (nI 0))) (pc' := 32) (ls' := [(0, aR 48 0)]) (st' := []) (cs' := [allw 48 0]) (fun _ => rfl) rfl (al1 rfl) ?_
  replace h := wr_some h
  generalize (sI Y6 48 0 23 (nI 0)) = Y7 at h ⊢
  refine w_sw k292 3 (Z := (sI Y7 48 0 25 (nI 0))) (pc' := 37) (ls' := [(0, aR 48 0)]) (st' := []) (cs' := [allw 48 0]) (fun _ => rfl) rfl (al1 rfl) ?_
  replace h := wr_some h
  generalize (sI Y7 48 0 25 (nI 0)) = Y8 at h ⊢
  refine w_sg k292 1 (pc' := 38) (ls' := [(0, aR 48 0)]) (st' := [aR 48 0]) (cs' := []) (fun _ => rfl) al0 ?_
  obtain ⟨_, Y9, hv10, h⟩ := bd_some h
  refine w_cV0 k292 (sn_274  _ _ hv10) rfl (st := []) rfl ?_ (fun _ _ q => q.elim)
  obtain ⟨e31, hl29, hx30⟩ := exd_some h
  refine w_ls [(0, aR 48 0)] (lq_c rfl lq_n) ?_
  refine L41_0 _ _ e31 hl29 (fun s9 hs9 => ?_) (fun r9 hr9 => ?_)
  · subst hs9
    replace h : fn_292_J62 s9 = some o := hx30
    refine w_ls [(0, aR 48 0)] (lq_c rfl lq_n) ?_
    exact J62_0 _ h
  · subst hr9
    exact hx30
set_option maxRecDepth 20000 in
set_option maxHeartbeats 4000000 in
/-- BallotBusModel.errorCode -/
theorem sn_293 {Y : Sm} (v : Int32) (Z : Sm) (h : fn_293 Y = some (v, Z)) : Mt 4 0 293 [aR 48 0] Y (Rt (some (aI v)) Z) nX := by
  refine Mt_of [(0, aR 48 0)] ?_
  generalize ho : (v, Z) = o at h
  have hv9 : v = o.1 := congrArg Prod.fst ho
  have hZ9 : Z = o.2 := congrArg Prod.snd ho
  clear ho
  subst hv9 hZ9
  unfold fn_293 at h
  refine w_sw k293 3 (Z := (sI Y 48 0 0 (nI 0))) (pc' := 5) (ls' := [(0, aR 48 0)]) (st' := []) (cs' := [allw 48 0]) (fun _ => rfl) rfl (al1 rfl) ?_
  replace h := wr_some h
  generalize (sI Y 48 0 0 (nI 0)) = Y1 at h ⊢
  refine w_sg k293 2 (pc' := 9) (ls' := [(0, aR 48 0)]) (st' := [aI (gI Y1.1 48 0 31)]) (cs' := []) (fun _ => rfl) al0 ?_
  obtain rfl := Option.some.inj h
  exact w_ireturn k293 ⟨rfl, rfl⟩
set_option maxRecDepth 20000 in
set_option maxHeartbeats 4000000 in
/-- BallotBusModel.errorOffset -/
theorem sn_294 {Y : Sm} (v : Int32) (Z : Sm) (h : fn_294 Y = some (v, Z)) : Mt 4 0 294 [aR 48 0] Y (Rt (some (aI v)) Z) nX := by
  refine Mt_of [(0, aR 48 0)] ?_
  generalize ho : (v, Z) = o at h
  have hv9 : v = o.1 := congrArg Prod.fst ho
  have hZ9 : Z = o.2 := congrArg Prod.snd ho
  clear ho
  subst hv9 hZ9
  unfold fn_294 at h
  refine w_sw k294 3 (Z := (sI Y 48 0 0 (nI 0))) (pc' := 5) (ls' := [(0, aR 48 0)]) (st' := []) (cs' := [allw 48 0]) (fun _ => rfl) rfl (al1 rfl) ?_
  replace h := wr_some h
  generalize (sI Y 48 0 0 (nI 0)) = Y1 at h ⊢
  refine w_sg k294 2 (pc' := 9) (ls' := [(0, aR 48 0)]) (st' := [aI (gI Y1.1 48 0 32)]) (cs' := []) (fun _ => rfl) al0 ?_
  obtain rfl := Option.some.inj h
  exact w_ireturn k294 ⟨rfl, rfl⟩
set_option maxRecDepth 20000 in
set_option maxHeartbeats 4000000 in
/-- BallotBusModel.indexOf -/
theorem sn_282_50 (a1 : Int32) (a2 : Int64) {Y : Sm} (v : Int32) (Z : Sm) (h : fn_282_50 a1 a2 Y = some (v, Z)) : Mt 4 0 282 [aR 50 0, aI a1, aJ a2] Y (Rt (some (aI v)) Z) nX := by
  refine Mt_of [(0, aR 50 0), (1, aI a1), (2, aJ a2)] ?_
  generalize ho : (v, Z) = o at h
  have hv9 : v = o.1 := congrArg Prod.fst ho
  have hZ9 : Z = o.2 := congrArg Prod.snd ho
  clear ho
  subst hv9 hZ9
  unfold fn_282_50 at h
  have L3_0 : ∀ (l1 : Int32) (l2 : Int64) (n : Nat) (l4 : Int32) (Y : Sm), lp (fun s => fn_282_50_L3 l1 l2 s.1 s.2) n (l4, Y) = some o → Wm 4 0 282 0 3 [(0, aR 50 0), (1, aI l1), (2, aJ l2), (4, aI l4)] [] Y (Rt (some (aI o.1)) o.2) nX := by
    intro l1 l2 n
    induction n with
    | zero => intro l4 Y h; cases h
    | succ n ih3 =>
      intro l4 Y h
      obtain ⟨q1, h, hn2⟩ := lp_succ h
      replace h : fn_282_50_L3 l1 l2 l4 Y = some q1 := h
      unfold fn_282_50_L3 at h
      refine w_sg k282 2 (pc' := 6) (ls' := [(0, aR 50 0), (1, aI l1), (2, aJ l2), (4, aI l4)]) (st' := [aI l1, aI l4]) (cs' := []) (fun _ => rfl) al0 ?_
      refine w_icmp_ge k282 rfl (fun c => ?_) (fun c => ?_)
      · replace h := if_t c h
        refine w_sg k282 1 (pc' := 28) (ls' := [(0, aR 50 0), (1, aI l1), (2, aJ l2), (4, aI l4)]) (st' := [aI (-1 : Int32)]) (cs' := []) (fun _ => rfl) al0 ?_
        obtain rfl := Option.some.inj h
        obtain rfl := lpn_r hn2
        exact w_ireturn k282 ⟨rfl, rfl⟩
      · replace h := if_f c h
        obtain ⟨hc4, h⟩ := ck_some h
        refine w_sg k282 5 (pc' := 15) (ls' := [(0, aR 50 0), (1, aI l1), (2, aJ l2), (4, aI l4)]) (st' := [aI (lg_cmp (gJ Y.1 50 0 (ix l4)) l2)]) (cs' := [vp_in l4 5]) (fun _ => rfl) (al1 (vin hc4)) ?_
        refine w_if_ne k282 rfl (fun c => ?_) (fun c => ?_)
        · replace h := if_f c h
          refine w_sg k282 2 (pc' := 3) (ls' := [(0, aR 50 0), (1, aI l1), (2, aJ l2), (4, aI (l4 + (nI 1)))]) (st' := []) (cs' := []) (fun _ => rfl) al0 ?_
          refine w_ls [(0, aR 50 0), (1, aI l1), (2, aJ l2), (4, aI (l4 + (nI 1)))] (lq_c rfl (lq_c rfl (lq_c rfl (lq_c rfl lq_n)))) ?_
          obtain rfl := Option.some.inj h
          exact ih3 _ _ (lpn_l hn2)
        · replace h := if_t c h
          refine w_sg k282 1 (pc' := 20) (ls' := [(0, aR 50 0), (1, aI l1), (2, aJ l2), (4, aI l4)]) (st' := [aI l4]) (cs' := []) (fun _ => rfl) al0 ?_
          obtain rfl := Option.some.inj h
          obtain rfl := lpn_r hn2
          exact w_ireturn k282 ⟨rfl, rfl⟩
  refine w_sg k282 2 (pc' := 3) (ls' := [(0, aR 50 0), (1, aI a1), (2, aJ a2), (4, aI (nI 0))]) (st' := []) (cs' := []) (fun _ => rfl) al0 ?_
  refine w_ls [(0, aR 50 0), (1, aI a1), (2, aJ a2), (4, aI (nI 0))] (lq_c rfl (lq_c rfl (lq_c rfl (lq_c rfl lq_n)))) ?_
  exact L3_0 _ _ _ _ _ h
set_option maxRecDepth 20000 in
set_option maxHeartbeats 4000000 in
/-- BallotBusModel.indexOf -/
theorem sn_282_51 (a1 : Int32) (a2 : Int64) {Y : Sm} (v : Int32) (Z : Sm) (h : fn_282_51 a1 a2 Y = some (v, Z)) : Mt 4 0 282 [aR 51 0, aI a1, aJ a2] Y (Rt (some (aI v)) Z) nX := by
  refine Mt_of [(0, aR 51 0), (1, aI a1), (2, aJ a2)] ?_
  generalize ho : (v, Z) = o at h
  have hv9 : v = o.1 := congrArg Prod.fst ho
  have hZ9 : Z = o.2 := congrArg Prod.snd ho
  clear ho
  subst hv9 hZ9
  unfold fn_282_51 at h
  have L3_0 : ∀ (l1 : Int32) (l2 : Int64) (n : Nat) (l4 : Int32) (Y : Sm), lp (fun s => fn_282_51_L3 l1 l2 s.1 s.2) n (l4, Y) = some o → Wm 4 0 282 0 3 [(0, aR 51 0), (1, aI l1), (2, aJ l2), (4, aI l4)] [] Y (Rt (some (aI o.1)) o.2) nX := by
    intro l1 l2 n
    induction n with
    | zero => intro l4 Y h; cases h
    | succ n ih3 =>
      intro l4 Y h
      obtain ⟨q1, h, hn2⟩ := lp_succ h
      replace h : fn_282_51_L3 l1 l2 l4 Y = some q1 := h
      unfold fn_282_51_L3 at h
      refine w_sg k282 2 (pc' := 6) (ls' := [(0, aR 51 0), (1, aI l1), (2, aJ l2), (4, aI l4)]) (st' := [aI l1, aI l4]) (cs' := []) (fun _ => rfl) al0 ?_
      refine w_icmp_ge k282 rfl (fun c => ?_) (fun c => ?_)
      · replace h := if_t c h
        refine w_sg k282 1 (pc' := 28) (ls' := [(0, aR 51 0), (1, aI l1), (2, aJ l2), (4, aI l4)]) (st' := [aI (-1 : Int32)]) (cs' := []) (fun _ => rfl) al0 ?_
        obtain rfl := Option.some.inj h
        obtain rfl := lpn_r hn2
        exact w_ireturn k282 ⟨rfl, rfl⟩
      · replace h := if_f c h
        obtain ⟨hc4, h⟩ := ck_some h
        refine w_sg k282 5 (pc' := 15) (ls' := [(0, aR 51 0), (1, aI l1), (2, aJ l2), (4, aI l4)]) (st' := [aI (lg_cmp (gJ Y.1 51 0 (ix l4)) l2)]) (cs' := [vp_in l4 8]) (fun _ => rfl) (al1 (vin hc4)) ?_
        refine w_if_ne k282 rfl (fun c => ?_) (fun c => ?_)
        · replace h := if_f c h
          refine w_sg k282 2 (pc' := 3) (ls' := [(0, aR 51 0), (1, aI l1), (2, aJ l2), (4, aI (l4 + (nI 1)))]) (st' := []) (cs' := []) (fun _ => rfl) al0 ?_
          refine w_ls [(0, aR 51 0), (1, aI l1), (2, aJ l2), (4, aI (l4 + (nI 1)))] (lq_c rfl (lq_c rfl (lq_c rfl (lq_c rfl lq_n)))) ?_
          obtain rfl := Option.some.inj h
          exact ih3 _ _ (lpn_l hn2)
        · replace h := if_t c h
          refine w_sg k282 1 (pc' := 20) (ls' := [(0, aR 51 0), (1, aI l1), (2, aJ l2), (4, aI l4)]) (st' := [aI l4]) (cs' := []) (fun _ => rfl) al0 ?_
          obtain rfl := Option.some.inj h
          obtain rfl := lpn_r hn2
          exact w_ireturn k282 ⟨rfl, rfl⟩
  refine w_sg k282 2 (pc' := 3) (ls' := [(0, aR 51 0), (1, aI a1), (2, aJ a2), (4, aI (nI 0))]) (st' := []) (cs' := []) (fun _ => rfl) al0 ?_
  refine w_ls [(0, aR 51 0), (1, aI a1), (2, aJ a2), (4, aI (nI 0))] (lq_c rfl (lq_c rfl (lq_c rfl (lq_c rfl lq_n)))) ?_
  exact L3_0 _ _ _ _ _ h
set_option maxRecDepth 20000 in
set_option maxHeartbeats 4000000 in
/-- BallotBusModel.find -/
theorem sn_295 (a1 : Int32) {Y : Sm} (v : Int32) (Z : Sm) (h : fn_295 a1 Y = some (v, Z)) : Mt 5 0 295 [aR 48 0, aI a1] Y (Rt (some (aI v)) Z) nX := by
  refine Mt_of [(0, aR 48 0), (1, aI a1)] ?_
  generalize ho : (v, Z) = o at h
  have hv9 : v = o.1 := congrArg Prod.fst ho
  have hZ9 : Z = o.2 := congrArg Prod.snd ho
  clear ho
  subst hv9 hZ9
  unfold fn_295 at h
  have L34_0 : ∀ (l1 : Int32) (l2 : Int32) (n : Nat) (l3 : Int64) (l5 : Int32) (Y : Sm) (e9 : (Int64 × Sm) ⊕ (Int32 × Sm)), lp (fun s => fn_295_L34 l1 l2 s.1 s.2.1 s.2.2) n (l3, l5, Y) = some e9 → (∀ s9 : (Int64 × Sm), e9 = .inl s9 → Wm 5 0 295 0 87 [(0, aR 48 0), (1, aI l1), (3, aJ s9.1)] [] s9.2 (Rt (some (aI o.1)) o.2) nX) → (∀ r, e9 = .inr r → r = o) → Wm 5 0 295 0 34 [(0, aR 48 0), (1, aI l1), (2, aI l2), (3, aJ l3), (5, aI l5)] [] Y (Rt (some (aI o.1)) o.2) nX := by
    intro l1 l2 n
    induction n with
    | zero => intro l3 l5 Y e9 h; cases h
    | succ n ih8 =>
      intro l3 l5 Y e9 h kE10 kR11
      obtain ⟨q6, h, hn7⟩ := lp_succ h
      replace h : fn_295_L34 l1 l2 l3 l5 Y = some q6 := h
      unfold fn_295_L34 at h
      refine w_sg k295 2 (pc' := 37) (ls' := [(0, aR 48 0), (1, aI l1), (2, aI l2), (3, aJ l3), (5, aI l5)]) (st' := [aI l2, aI l5]) (cs' := []) (fun _ => rfl) al0 ?_
      refine w_icmp_ge k295 rfl (fun c => ?_) (fun c => ?_)
      · replace h := if_t c h
        refine w_ls [(0, aR 48 0), (1, aI l1), (3, aJ l3)] (lq_c rfl (lq_c rfl (lq_c rfl lq_n))) ?_
        obtain rfl := Option.some.inj h
        obtain rfl := lpn_r hn7
        exact kE10 _ rfl
      · replace h := if_f c h
        obtain ⟨hc12, h⟩ := ck_some h
        refine w_sg k295 7 (pc' := 54) (ls' := [(0, aR 48 0), (1, aI l1), (2, aI l2), (3, aJ l3), (5, aI l5)]) (st' := [aJ (((nI 122)).toInt64), aJ (((nI 97)).toInt64), aJ ((gI Y.1 60 0 (ix l5)).toInt64)]) (cs' := [vp_in l5 500]) (fun _ => rfl) (al1 (vin hc12)) ?_
        obtain ⟨v15, Y13, hv14, h⟩ := bd_some h
        refine w_cS1 k295 (sn_166 _ _ _ _ _ hv14) rfl (st := []) rfl ?_ (fun _ _ q => q.elim)
        refine w_if_ne k295 rfl (fun c => ?_) (fun c => ?_)
        · replace h := if_f c h
          refine w_sg k295 14 (pc' := 34) (ls' := [(0, aR 48 0), (1, aI l1), (2, aI l2), (3, aJ ((((((nI 32)).toInt64) * l3) + ((gI Y13.1 60 0 (ix l5)).toInt64)) - (((nI 96)).toInt64))), (5, aI (l5 + (nI 1)))]) (st' := []) (cs' := [vp_in l5 500]) (fun _ => rfl) (al1 (vin hc12)) ?_
          refine w_ls [(0, aR 48 0), (1, aI l1), (2, aI l2), (3, aJ ((((((nI 32)).toInt64) * l3) + ((gI Y13.1 60 0 (ix l5)).toInt64)) - (((nI 96)).toInt64))), (5, aI (l5 + (nI 1)))] (lq_c rfl (lq_c rfl (lq_c rfl (lq_c rfl (lq_c rfl lq_n))))) ?_
          obtain rfl := Option.some.inj h
          exact ih8 _ _ _ _ (lpn_l hn7) kE10 kR11
        · replace h := if_t c h
          refine w_sg k295 1 (pc' := 61) (ls' := [(0, aR 48 0), (1, aI l1), (2, aI l2), (3, aJ l3), (5, aI l5)]) (st' := [aI (-1 : Int32)]) (cs' := []) (fun _ => rfl) al0 ?_
          obtain rfl := Option.some.inj h
          obtain rfl := lpn_r hn7
          obtain rfl := kR11 _ rfl
          exact w_ireturn k295 ⟨rfl, rfl⟩
  have J87_0 : ∀ (l1 : Int32) (l3 : Int64) (Y : Sm), fn_295_J87 l1 l3 Y = some o → Wm 5 0 295 0 87 [(0, aR 48 0), (1, aI l1), (3, aJ l3)] [] Y (Rt (some (aI o.1)) o.2) nX := by
    intro l1 l3 Y h
    unfold fn_295_J87 at h
    refine w_sg k295 1 (pc' := 88) (ls' := [(0, aR 48 0), (1, aI l1), (3, aJ l3)]) (st' := [aI l1]) (cs' := []) (fun _ => rfl) al0 ?_
    refine w_if_eq k295 rfl (fun c => ?_) (fun c => ?_)
    · replace h := if_t c h
      refine w_sg k295 5 (pc' := 115) (ls' := [(0, aR 48 0), (1, aI l1), (3, aJ l3)]) (st' := [aJ l3, aI (gI Y.1 48 0 1), aR 50 0]) (cs' := []) (fun _ => rfl) al0 ?_
      obtain ⟨v18, Y16, hv17, h⟩ := bd_some h
      refine w_cS1 k295 (sn_282_50 _ _ _ _ hv17) rfl (st := []) rfl ?_ (fun _ _ q => q.elim)
      obtain rfl := Option.some.inj h
      exact w_ireturn k295 ⟨rfl, rfl⟩
    · replace h := if_f c h
      refine w_sg k295 5 (pc' := 100) (ls' := [(0, aR 48 0), (1, aI l1), (3, aJ l3)]) (st' := [aJ l3, aI (gI Y.1 48 0 2), aR 51 0]) (cs' := []) (fun _ => rfl) al0 ?_
      obtain ⟨v21, Y19, hv20, h⟩ := bd_some h
      refine w_cS1 k295 (sn_282_51 _ _ _ _ hv20) rfl (st := []) rfl ?_ (fun _ _ q => q.elim)
      refine w_sg k295 1 (pc' := 118) (ls' := [(0, aR 48 0), (1, aI l1), (3, aJ l3)]) (st' := [aI v21]) (cs' := []) (fun _ => rfl) al0 ?_
      obtain rfl := Option.some.inj h
      exact w_ireturn k295 ⟨rfl, rfl⟩
  refine w_sw k295 3 (Z := (sI Y 48 0 0 (nI 0))) (pc' := 5) (ls' := [(0, aR 48 0), (1, aI a1)]) (st' := []) (cs' := [allw 48 0]) (fun _ => rfl) rfl (al1 rfl) ?_
  replace h := wr_some h
  generalize (sI Y 48 0 0 (nI 0)) = Y1 at h ⊢
  refine w_sw k295 6 (Z := (sI Y1 48 0 23 (nI 0))) (pc' := 15) (ls' := [(0, aR 48 0), (1, aI a1), (2, aI (gI Y1.1 48 0 23))]) (st' := []) (cs' := [allw 48 0]) (fun _ => rfl) rfl (al1 rfl) ?_
  replace h := wr_some h
  generalize (sI Y1 48 0 23 (nI 0)) = Y2 at h ⊢
  refine w_sg k295 4 (pc' := 21) (ls' := [(0, aR 48 0), (1, aI a1), (2, aI (gI Y1.1 48 0 23))]) (st' := [aJ (((nI 6)).toInt64), aJ (Int64.ofNat 1), aJ ((gI Y1.1 48 0 23).toInt64)]) (cs' := []) (fun _ => rfl) al0 ?_
  obtain ⟨v5, Y3, hv4, h⟩ := bd_some h
  refine w_cS1 k295 (sn_166 _ _ _ _ _ hv4) rfl (st := []) rfl ?_ (fun _ _ q => q.elim)
  refine w_if_ne k295 rfl (fun c => ?_) (fun c => ?_)
  · replace h := if_f c h
    refine w_sg k295 4 (pc' := 34) (ls' := [(0, aR 48 0), (1, aI a1), (2, aI (gI Y1.1 48 0 23)), (3, aJ (Int64.ofNat 0)), (5, aI (nI 0))]) (st' := []) (cs' := []) (fun _ => rfl) al0 ?_
    obtain ⟨e24, hl22, hx23⟩ := exd_some h
    refine w_ls [(0, aR 48 0), (1, aI a1), (2, aI (gI Y1.1 48 0 23)), (3, aJ (Int64.ofNat 0)), (5, aI (nI 0))] (lq_c rfl (lq_c rfl (lq_c rfl (lq_c rfl (lq_c rfl lq_n))))) ?_
    refine L34_0 _ _ _ _ _ _ e24 hl22 (fun s9 hs9 => ?_) (fun r9 hr9 => ?_)
    · subst hs9
      replace h : fn_295_J87 a1 s9.1 s9.2 = some o := hx23
      refine w_ls [(0, aR 48 0), (1, aI a1), (3, aJ s9.1)] (lq_c rfl (lq_c rfl (lq_c rfl lq_n))) ?_
      exact J87_0 _ _ _ h
    · subst hr9
      exact hx23
  · replace h := if_t c h
    refine w_sg k295 1 (pc' := 28) (ls' := [(0, aR 48 0), (1, aI a1), (2, aI (gI Y1.1 48 0 23))]) (st' := [aI (-1 : Int32)]) (cs' := []) (fun _ => rfl) al0 ?_
    obtain rfl := Option.some.inj h
    exact w_ireturn k295 ⟨rfl, rfl⟩
set_option maxRecDepth 20000 in
set_option maxHeartbeats 4000000 in
/-- BallotBusModel.says -/
theorem sn_296 (a1 : Int32) {Y : Sm} (v : Unit) (Z : Sm) (h : fn_296 a1 Y = some (v, Z)) : Mt 4 0 296 [aR 48 0, aI a1] Y (Rt none Z) nX := by
  refine Mt_of [(0, aR 48 0), (1, aI a1)] ?_
  generalize ho : (v, Z) = o at h
  have hv9 : v = o.1 := congrArg Prod.fst ho
  have hZ9 : Z = o.2 := congrArg Prod.snd ho
  clear ho
  subst hv9 hZ9
  unfold fn_296 at h
  obtain ⟨hc1, h⟩ := ck_some h
  refine w_sw k296 7 (Z := (sI Y 65 0 (ix (gI Y.1 48 0 41)) ((((a1).toInt8.toInt32)).toInt8.toInt32))) (pc' := 11) (ls' := [(0, aR 48 0), (1, aI a1)]) (st' := []) (cs' := [vp_in (gI Y.1 48 0 41) 60, allw 65 0]) (fun _ => rfl) rfl (al2 (vin hc1) (al1 rfl)) ?_
  replace h := wr_some h
  generalize (sI Y 65 0 (ix (gI Y.1 48 0 41)) ((((a1).toInt8.toInt32)).toInt8.toInt32)) = Y2 at h ⊢
  refine w_sw k296 6 (Z := (sI Y2 48 0 41 ((gI Y2.1 48 0 41) + (nI 1)))) (pc' := 21) (ls' := [(0, aR 48 0), (1, aI a1)]) (st' := []) (cs' := [allw 48 0]) (fun _ => rfl) rfl (al1 rfl) ?_
  replace h := wr_some h
  generalize (sI Y2 48 0 41 ((gI Y2.1 48 0 41) + (nI 1))) = Y3 at h ⊢
  obtain rfl := Option.some.inj h
  exact w_return k296 ⟨rfl, rfl⟩
