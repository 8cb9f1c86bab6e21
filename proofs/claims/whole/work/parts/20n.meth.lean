/-! the code of the methods does what their functions say (printed by wip/whole/gen20.py) -/
set_option maxRecDepth 20000 in
set_option maxHeartbeats 4000000 in
/-- BallotBusModel.parse -/
theorem sn_292 {Y : Sm} (v : Int32) (Z : Sm) (h : fn_292 Y = some (v, Z)) : Mt 12 0 292 [aR 48 0] Y (Rt (some (aI v)) Z) nX := by
  refine Mt_of [(0, aR 48 0)] ?_
  generalize ho : (v, Z) = o at h
  have hv9 : v = o.1 := congrArg Prod.fst ho
  have hZ9 : Z = o.2 := congrArg Prod.snd ho
  clear ho
  subst hv9 hZ9
  unfold fn_292 at h
  have L41_0 : ∀ (n : Nat) (Y : Sm) (e14 : (Sm) ⊕ (Int32 × Sm)), lp (fun s => fn_292_L41 s) n (Y) = some e14 → (∀ s9 : (Sm), e14 = .inl s9 → Wm 12 0 292 0 62 [(0, aR 48 0)] [] s9 (Rt (some (aI o.1)) o.2) nX) → (∀ r, e14 = .inr r → r = o) → Wm 12 0 292 0 41 [(0, aR 48 0)] [] Y (Rt (some (aI o.1)) o.2) nX := by
    intro n
    induction n with
    | zero => intro Y e14 h; cases h
    | succ n ih13 =>
      intro Y e14 h kE15 kR16
      obtain ⟨q11, h, hn12⟩ := lp_succ h
      replace h : fn_292_L41 Y = some q11 := h
      unfold fn_292_L41 at h
      refine w_sg k292 1 (pc' := 42) (ls' := [(0, aR 48 0)]) (st' := [aR 48 0]) (cs' := []) (fun _ => rfl) al0 ?_
      obtain ⟨v19, Y17, hv18, h⟩ := bd_some h
      refine w_cV1 k292 (sn_276  _ _ hv18) rfl (st := []) rfl ?_ (fun _ _ q => q.elim)
      refine w_if_eq k292 rfl (fun c => ?_) (fun c => ?_)
      · replace h := if_t c h
        refine w_ls [(0, aR 48 0)] (lq_c rfl lq_n) ?_
        obtain rfl := Option.some.inj h
        obtain rfl := lpn_r hn12
        exact kE15 (Y17) rfl
      · replace h := if_f c h
        refine w_sg k292 2 (pc' := 52) (ls' := [(0, aR 48 0)]) (st' := [aI (gI Y17.1 48 0 27)]) (cs' := []) (fun _ => rfl) al0 ?_
        refine w_if_eq k292 rfl (fun c => ?_) (fun c => ?_)
        · replace h := if_t c h
          refine w_ls [(0, aR 48 0)] (lq_c rfl lq_n) ?_
          obtain rfl := Option.some.inj h
          obtain rfl := lpn_r hn12
          exact kE15 (Y17) rfl
        · replace h := if_f c h
          refine w_sg k292 1 (pc' := 56) (ls' := [(0, aR 48 0)]) (st' := [aR 48 0]) (cs' := []) (fun _ => rfl) al0 ?_
          obtain ⟨_, Y20, hv21, h⟩ := bd_some h
          refine w_cV0 k292 (sn_291  _ _ hv21) rfl (st := []) rfl ?_ (fun _ _ q => q.elim)
          refine w_sg k292 1 (pc' := 41) (ls' := [(0, aR 48 0)]) (st' := []) (cs' := []) (fun _ => rfl) al0 ?_
          refine w_ls [(0, aR 48 0)] (lq_c rfl lq_n) ?_
          obtain rfl := Option.some.inj h
          exact ih13 _ _ (lpn_l hn12) kE15 kR16
  have J82_0 : ∀ (t0 : Int32) (Y : Sm), fn_292_J82 t0 Y = some o → Wm 12 0 292 0 82 [(0, aR 48 0)] [aI t0, aR 48 0] Y (Rt (some (aI o.1)) o.2) nX := by
    intro t0 Y h
    unfold fn_292_J82 at h
    refine w_sg k292 1 (pc' := 83) (ls' := [(0, aR 48 0)]) (st' := [aI (nI 5), aI t0, aR 48 0]) (cs' := []) (fun _ => rfl) al0 ?_
    obtain ⟨_, Y22, hv23, h⟩ := bd_some h
    refine w_cV0 k292 (sn_277 _ _ _ _ hv23) rfl (st := []) rfl ?_ (fun _ _ q => q.elim)
    refine w_sg k292 1 (pc' := 87) (ls' := [(0, aR 48 0)]) (st' := [aR 48 0]) (cs' := []) (fun _ => rfl) al0 ?_
    obtain ⟨v26, Y24, hv25, h⟩ := bd_some h
    refine w_cV1 k292 (sn_276  _ _ hv25) rfl (st := []) rfl ?_ (fun _ _ q => q.elim)
    refine w_if_ne k292 rfl (fun c => ?_) (fun c => ?_)
    · replace h := if_f c h
      refine w_sg k292 1 (pc' := 96) (ls' := [(0, aR 48 0)]) (st' := [aR 48 0]) (cs' := []) (fun _ => rfl) al0 ?_
      obtain ⟨_, Y27, hv28, h⟩ := bd_some h
      refine w_cV0 k292 (sn_269  _ _ hv28) rfl (st := []) rfl ?_ (fun _ _ q => q.elim)
      refine w_sg k292 2 (pc' := 103) (ls' := [(0, aR 48 0)]) (st' := [aI (gI Y27.1 48 0 1)]) (cs' := []) (fun _ => rfl) al0 ?_
      obtain rfl := Option.some.inj h
      exact w_ireturn k292 ⟨rfl, rfl⟩
    · replace h := if_t c h
      refine w_sg k292 1 (pc' := 94) (ls' := [(0, aR 48 0)]) (st' := [aI (-1 : Int32)]) (cs' := []) (fun _ => rfl) al0 ?_
      obtain rfl := Option.some.inj h
      exact w_ireturn k292 ⟨rfl, rfl⟩
  have J81_0 : ∀ (Y : Sm), fn_292_J81 Y = some o → Wm 12 0 292 0 81 [(0, aR 48 0)] [aR 48 0] Y (Rt (some (aI o.1)) o.2) nX := by
    intro Y h
    unfold fn_292_J81 at h
    refine w_sg k292 1 (pc' := 82) (ls' := [(0, aR 48 0)]) (st' := [aI (nI 0), aR 48 0]) (cs' := []) (fun _ => rfl) al0 ?_
    refine w_ls [(0, aR 48 0)] (lq_c rfl lq_n) ?_
    exact J82_0 _ _ h
  have J62_0 : ∀ (Y : Sm), fn_292_J62 Y = some o → Wm 12 0 292 0 62 [(0, aR 48 0)] [] Y (Rt (some (aI o.1)) o.2) nX := by
    intro Y h
    unfold fn_292_J62 at h
    refine w_sg k292 3 (pc' := 67) (ls' := [(0, aR 48 0)]) (st' := [aI (gI Y.1 48 0 33), aR 48 0]) (cs' := []) (fun _ => rfl) al0 ?_
    refine w_if_le k292 rfl (fun c => ?_) (fun c => ?_)
    · replace h := if_t c h
      refine w_ls [(0, aR 48 0)] (lq_c rfl lq_n) ?_
      exact J81_0 _ h
    · replace h := if_f c h
      refine w_sg k292 2 (pc' := 74) (ls' := [(0, aR 48 0)]) (st' := [aI (gI Y.1 48 0 34), aR 48 0]) (cs' := []) (fun _ => rfl) al0 ?_
      refine w_if_le k292 rfl (fun c => ?_) (fun c => ?_)
      · replace h := if_t c h
        refine w_ls [(0, aR 48 0)] (lq_c rfl lq_n) ?_
        exact J81_0 _ h
      · replace h := if_f c h
        refine w_sg k292 2 (pc' := 82) (ls' := [(0, aR 48 0)]) (st' := [aI (nI 1), aR 48 0]) (cs' := []) (fun _ => rfl) al0 ?_
        refine w_ls [(0, aR 48 0)] (lq_c rfl lq_n) ?_
        exact J82_0 _ _ h
  refine w_sw k292 3 (Z := (sI Y 48 0 0 (nI 0))) (pc' := 5) (ls' := [(0, aR 48 0)]) (st' := []) (cs' := [allw 48 0]) (fun _ => rfl) rfl (al1 rfl) ?_
  replace h := wr_some h
  generalize (sI Y 48 0 0 (nI 0)) = Y1 at h ⊢
  refine w_sw k292 3 (Z := (sI Y1 48 0 31 (nI 0))) (pc' := 10) (ls' := [(0, aR 48 0)]) (st' := []) (cs' := [allw 48 0]) (fun _ => rfl) rfl (al1 rfl) ?_
  replace h := wr_some h
  generalize (sI Y1 48 0 31 (nI 0)) = Y2 at h ⊢
  refine w_sw k292 3 (Z := (sI Y2 48 0 32 (-1 : Int32))) (pc' := 15) (ls' := [(0, aR 48 0)]) (st' := []) (cs' := [allw 48 0]) (fun _ => rfl) rfl (al1 rfl) ?_
  replace h := wr_some h
  generalize (sI Y2 48 0 32 (-1 : Int32)) = Y3 at h ⊢
  refine w_sg k292 1 (pc' := 16) (ls' := [(0, aR 48 0)]) (st' := [aR 48 0]) (cs' := []) (fun _ => rfl) al0 ?_
  obtain ⟨_, Y4, hv5, h⟩ := bd_some h
  refine w_cV0 k292 (sn_268  _ _ hv5) rfl (st := []) rfl ?_ (fun _ _ q => q.elim)
  refine w_sw k292 4 (Z := (sI Y4 48 0 24 (gI Y4.1 48 0 23))) (pc' := 27) (ls' := [(0, aR 48 0)]) (st' := []) (cs' := [allw 48 0]) (fun _ => rfl) rfl (al1 rfl) ?_
  replace h := wr_some h
  generalize (sI Y4 48 0 24 (gI Y4.1 48 0 23)) = Y6 at h ⊢
  refine w_sw k292 3 (Z := (sI Y6 48 0 23 (nI 0))) (pc' := 32) (ls' := [(0, aR 48 0)]) (st' := []) (cs' := [allw 48 0]) (fun _ => rfl) rfl (al1 rfl) ?_
  replace h := wr_some h
  generalize (sI Y6 48 0 23 (nI 0)) = Y7 at h ⊢
  refine w_sw k292 3 (Z := (sI Y7 48 0 25 (nI 0))) (pc' := 37) (ls' := [(0, aR 48 0)]) (st' := []) (cs' := [allw 48 0]) (fun _ => rfl) rfl (al1 rfl) ?_
  replace h := wr_some h
  generalize (sI Y7 48 0 25 (nI 0)) = Y8 at h ⊢
  refine w_sg k292 1 (pc' := 38) (ls' := [(0, aR 48 0)]) (st' := [aR 48 0]) (cs' := []) (fun _ => rfl) al0 ?_
  obtain ⟨_, Y9, hv10, h⟩ := bd_some h
  refine w_cV0 k292 (sn_274  _ _ hv10) rfl (st := []) rfl ?_ (fun _ _ q => q.elim)
  obtain ⟨e31, hl29, hx30⟩ := exd_some h
  refine w_ls [(0, aR 48 0)] (lq_c rfl lq_n) ?_
  refine L41_0 _ _ e31 hl29 (fun s9 hs9 => ?_) (fun r9 hr9 => ?_)
  · subst hs9
    replace h : fn_292_J62 s9 = some o := hx30
    refine w_ls [(0, aR 48 0)] (lq_c rfl lq_n) ?_
    exact J62_0 _ h
  · subst hr9
    exact hx30
set_option maxRecDepth 20000 in
set_option maxHeartbeats 4000000 in
/-- BallotBusModel.errorCode -/
theorem sn_293 {Y : Sm} (v : Int32) (Z : Sm) (h : fn_293 Y = some (v, Z)) : Mt 4 0 293 [aR 48 0] Y (Rt (some (aI v)) Z) nX := by
  refine Mt_of [(0, aR 48 0)] ?_
  generalize ho : (v, Z) = o at h
  have hv9 : v = o.1 := congrArg Prod.fst ho
  have hZ9 : Z = o.2 := congrArg Prod.snd ho
  clear ho
  subst hv9 hZ9
  unfold fn_293 at h
  refine w_sw k293 3 (Z := (sI Y 48 0 0 (nI 0))) (pc' := 5) (ls' := [(0, aR 48 0)]) (st' := []) (cs' := [allw 48 0]) (fun _ => rfl) rfl (al1 rfl) ?_
  replace h := wr_some h
  generalize (sI Y 48 0 0 (nI 0)) = Y1 at h ⊢
  refine w_sg k293 2 (pc' := 9) (ls' := [(0, aR 48 0)]) (st' := [aI (gI Y1.1 48 0 31)]) (cs' := []) (fun _ => rfl) al0 ?_
  obtain rfl := Option.some.inj h
  exact w_ireturn k293 ⟨rfl, rfl⟩
set_option maxRecDepth 20000 in
set_option maxHeartbeats 4000000 in
/-- BallotBusModel.errorOffset -/
theorem sn_294 {Y : Sm} (v : Int32) (Z : Sm) (h : fn_294 Y = some (v, Z)) : Mt 4 0 294 [aR 48 0] Y (Rt (some (aI v)) Z) nX := by
  refine Mt_of [(0, aR 48 0)] ?_
  generalize ho : (v, Z) = o at h
  have hv9 : v = o.1 := congrArg Prod.fst ho
  have hZ9 : Z = o.2 := congrArg Prod.snd ho
  clear ho
  subst hv9 hZ9
  unfold fn_294 at h
  refine w_sw k294 3 (Z := (sI Y 48 0 0 (nI 0))) (pc' := 5) (ls' := [(0, aR 48 0)]) (st' := []) (cs' := [allw 48 0]) (fun _ => rfl) rfl (al1 rfl) ?_
  replace h := wr_some h
  generalize (sI Y 48 0 0 (nI 0)) = Y1 at h ⊢
  refine w_sg k294 2 (pc' := 9) (ls' := [(0, aR 48 0)]) (st' := [aI (gI Y1.1 48 0 32)]) (cs' := []) (fun _ => rfl) al0 ?_
  obtain rfl := Option.some.inj h
  exact w_ireturn k294 ⟨rfl, rfl⟩
set_option maxRecDepth 20000 in
set_option maxHeartbeats 4000000 in
/-- BallotBusModel.indexOf -/
theorem sn_282_50 (a1 : Int32) (a2 : Int64) {Y : Sm} (v : Int32) (Z : Sm) (h : fn_282_50 a1 a2 Y = some (v, Z)) : Mt 4 0 282 [aR 50 0, aI a1, aJ a2] Y (Rt (some (aI v)) Z) nX := by
  refine Mt_of [(0, aR 50 0), (1, aI a1), (2, aJ a2)] ?_
  generalize ho : (v, Z) = o at h
  have hv9 : v = o.1 := congrArg Prod.fst ho
  have hZ9 : Z = o.2 := congrArg Prod.snd ho
  clear ho
  subst hv9 hZ9
  unfold fn_282_50 at h
  have L3_0 : ∀ (l1 : Int32) (l2 : Int64) (n : Nat) (l4 : Int32) (Y : Sm), lp (fun s => fn_282_50_L3 l1 l2 s.1 s.2) n (l4, Y) = some o → Wm 4 0 282 0 3 [(0, aR 50 0), (1, aI l1), (2, aJ l2), (4, aI l4)] [] Y (Rt (some (aI o.1)) o.2) nX := by
    intro l1 l2 n
    induction n with
    | zero => intro l4 Y h; cases h
    | succ n ih3 =>
      intro l4 Y h
      obtain ⟨q1, h, hn2⟩ := lp_succ h
      replace h : fn_282_50_L3 l1 l2 l4 Y = some q1 := h
      unfold fn_282_50_L3 at h
      refine w_sg k282 2 (pc' := 6) (ls' := [(0, aR 50 0), (1, aI l1), (2, aJ l2), (4, aI l4)]) (st' := [aI l1, aI l4]) (cs' := []) (fun _ => rfl) al0 ?_
      refine w_icmp_ge k282 rfl (fun c => ?_) (fun c => ?_)
      · replace h := if_t c h
        refine w_sg k282 1 (pc' := 28) (ls' := [(0, aR 50 0), (1, aI l1), (2, aJ l2), (4, aI l4)]) (st' := [aI (-1 : Int32)]) (cs' := []) (fun _ => rfl) al0 ?_
        obtain rfl := Option.some.inj h
        obtain rfl := lpn_r hn2
        exact w_ireturn k282 ⟨rfl, rfl⟩
      · replace h := if_f c h
        obtain ⟨hc4, h⟩ := ck_some h
        refine w_sg k282 5 (pc' := 15) (ls' := [(0, aR 50 0), (1, aI l1), (2, aJ l2), (4, aI l4)]) (st' := [aI (lg_cmp (gJ Y.1 50 0 (ix l4)) l2)]) (cs' := [vp_in l4 5]) (fun _ => rfl) (al1 (vin hc4)) ?_
        refine w_if_ne k282 rfl (fun c => ?_) (fun c => ?_)
        · replace h := if_f c h
          refine w_sg k282 1 (pc' := 24) (ls' := [(0, aR 50 0), (1, aI l1), (2, aJ l2), (4, aI (l4 + (nI 1)))]) (st' := []) (cs' := []) (fun _ => rfl) al0 ?_
          refine w_sg k282 1 (pc' := 3) (ls' := [(0, aR 50 0), (1, aI l1), (2, aJ l2), (4, aI (l4 + (nI 1)))]) (st' := []) (cs' := []) (fun _ => rfl) al0 ?_
          refine w_ls [(0, aR 50 0), (1, aI l1), (2, aJ l2), (4, aI (l4 + (nI 1)))] (lq_c rfl (lq_c rfl (lq_c rfl (lq_c rfl lq_n)))) ?_
          obtain rfl := Option.some.inj h
          exact ih3 _ _ (lpn_l hn2)
        · replace h := if_t c h
          refine w_sg k282 1 (pc' := 20) (ls' := [(0, aR 50 0), (1, aI l1), (2, aJ l2), (4, aI l4)]) (st' := [aI l4]) (cs' := []) (fun _ => rfl) al0 ?_
          obtain rfl := Option.some.inj h
          obtain rfl := lpn_r hn2
          exact w_ireturn k282 ⟨rfl, rfl⟩
  refine w_sg k282 2 (pc' := 3) (ls' := [(0, aR 50 0), (1, aI a1), (2, aJ a2), (4, aI (nI 0))]) (st' := []) (cs' := []) (fun _ => rfl) al0 ?_
  refine w_ls [(0, aR 50 0), (1, aI a1), (2, aJ a2), (4, aI (nI 0))] (lq_c rfl (lq_c rfl (lq_c rfl (lq_c rfl lq_n)))) ?_
  exact L3_0 _ _ _ _ _ h
set_option maxRecDepth 20000 in
set_option maxHeartbeats 4000000 in
/-- BallotBusModel.indexOf -/
theorem sn_282_51 (a1 : Int32) (a2 : Int64) {Y : Sm} (v : Int32) (Z : Sm) (h : fn_282_51 a1 a2 Y = some (v, Z)) : Mt 4 0 282 [aR 51 0, aI a1, aJ a2] Y (Rt (some (aI v)) Z) nX := by
  refine Mt_of [(0, aR 51 0), (1, aI a1), (2, aJ a2)] ?_
  generalize ho : (v, Z) = o at h
  have hv9 : v = o.1 := congrArg Prod.fst ho
  have hZ9 : Z = o.2 := congrArg Prod.snd ho
  clear ho
  subst hv9 hZ9
  unfold fn_282_51 at h
  have L3_0 : ∀ (l1 : Int32) (l2 : Int64) (n : Nat) (l4 : Int32) (Y : Sm), lp (fun s => fn_282_51_L3 l1 l2 s.1 s.2) n (l4, Y) = some o → Wm 4 0 282 0 3 [(0, aR 51 0), (1, aI l1), (2, aJ l2), (4, aI l4)] [] Y (Rt (some (aI o.1)) o.2) nX := by
    intro l1 l2 n
    induction n with
    | zero => intro l4 Y h; cases h
    | succ n ih3 =>
      intro l4 Y h
      obtain ⟨q1, h, hn2⟩ := lp_succ h
      replace h : fn_282_51_L3 l1 l2 l4 Y = some q1 := h
      unfold fn_282_51_L3 at h
      refine w_sg k282 2 (pc' := 6) (ls' := [(0, aR 51 0), (1, aI l1), (2, aJ l2), (4, aI l4)]) (st' := [aI l1, aI l4]) (cs' := []) (fun _ => rfl) al0 ?_
      refine w_icmp_ge k282 rfl (fun c => ?_) (fun c => ?_)
      · replace h := if_t c h
        refine w_sg k282 1 (pc' := 28) (ls' := [(0, aR 51 0), (1, aI l1), (2, aJ l2), (4, aI l4)]) (st' := [aI (-1 : Int32)]) (cs' := []) (fun _ => rfl) al0 ?_
        obtain rfl := Option.some.inj h
        obtain rfl := lpn_r hn2
        exact w_ireturn k282 ⟨rfl, rfl⟩
      · replace h := if_f c h
        obtain ⟨hc4, h⟩ := ck_some h
        refine w_sg k282 5 (pc' := 15) (ls' := [(0, aR 51 0), (1, aI l1), (2, aJ l2), (4, aI l4)]) (st' := [aI (lg_cmp (gJ Y.1 51 0 (ix l4)) l2)]) (cs' := [vp_in l4 8]) (fun _ => rfl) (al1 (vin hc4)) ?_
        refine w_if_ne k282 rfl (fun c => ?_) (fun c => ?_)
        · replace h := if_f c h
          refine w_sg k282 1 (pc' := 24) (ls' := [(0, aR 51 0), (1, aI l1), (2, aJ l2), (4, aI (l4 + (nI 1)))]) (st' := []) (cs' := []) (fun _ => rfl) al0 ?_
          refine w_sg k282 1 (pc' := 3) (ls' := [(0, aR 51 0), (1, aI l1), (2, aJ l2), (4, aI (l4 + (nI 1)))]) (st' := []) (cs' := []) (fun _ => rfl) al0 ?_
          refine w_ls [(0, aR 51 0), (1, aI l1), (2, aJ l2), (4, aI (l4 + (nI 1)))] (lq_c rfl (lq_c rfl (lq_c rfl (lq_c rfl lq_n)))) ?_
          obtain rfl := Option.some.inj h
          exact ih3 _ _ (lpn_l hn2)
        · replace h := if_t c h
          refine w_sg k282 1 (pc' := 20) (ls' := [(0, aR 51 0), (1, aI l1), (2, aJ l2), (4, aI l4)]) (st' := [aI l4]) (cs' := []) (fun _ => rfl) al0 ?_
          obtain rfl := Option.some.inj h
          obtain rfl := lpn_r hn2
          exact w_ireturn k282 ⟨rfl, rfl⟩
  refine w_sg k282 2 (pc' := 3) (ls' := [(0, aR 51 0), (1, aI a1), (2, aJ a2), (4, aI (nI 0))]) (st' := []) (cs' := []) (fun _ => rfl) al0 ?_
  refine w_ls [(0, aR 51 0), (1, aI a1), (2, aJ a2), (4, aI (nI 0))] (lq_c rfl (lq_c rfl (lq_c rfl (lq_c rfl lq_n)))) ?_
  exact L3_0 _ _ _ _ _ h
set_option maxRecDepth 20000 in
set_option maxHeartbeats 4000000 in
/-- BallotBusModel.find -/
theorem sn_295 (a1 : Int32) {Y : Sm} (v : Int32) (Z : Sm) (h : fn_295 a1 Y = some (v, Z)) : Mt 5 0 295 [aR 48 0, aI a1] Y (Rt (some (aI v)) Z) nX := by
  refine Mt_of [(0, aR 48 0), (1, aI a1)] ?_
  generalize ho : (v, Z) = o at h
  have hv9 : v = o.1 := congrArg Prod.fst ho
  have hZ9 : Z = o.2 := congrArg Prod.snd ho
  clear ho
  subst hv9 hZ9
  unfold fn_295 at h
  have L34_0 : ∀ (l1 : Int32) (l2 : Int32) (n : Nat) (l3 : Int64) (l5 : Int32) (Y : Sm) (e9 : (Int64 × Sm) ⊕ (Int32 × Sm)), lp (fun s => fn_295_L34 l1 l2 s.1 s.2.1 s.2.2) n (l3, l5, Y) = some e9 → (∀ s9 : (Int64 × Sm), e9 = .inl s9 → Wm 5 0 295 0 87 [(0, aR 48 0), (1, aI l1), (3, aJ s9.1)] [] s9.2 (Rt (some (aI o.1)) o.2) nX) → (∀ r, e9 = .inr r → r = o) → Wm 5 0 295 0 34 [(0, aR 48 0), (1, aI l1), (2, aI l2), (3, aJ l3), (5, aI l5)] [] Y (Rt (some (aI o.1)) o.2) nX := by
    intro l1 l2 n
    induction n with
    | zero => intro l3 l5 Y e9 h; cases h
    | succ n ih8 =>
      intro l3 l5 Y e9 h kE10 kR11
      obtain ⟨q6, h, hn7⟩ := lp_succ h
      replace h : fn_295_L34 l1 l2 l3 l5 Y = some q6 := h
      unfold fn_295_L34 at h
      refine w_sg k295 2 (pc' := 37) (ls' := [(0, aR 48 0), (1, aI l1), (2, aI l2), (3, aJ l3), (5, aI l5)]) (st' := [aI l2, aI l5]) (cs' := []) (fun _ => rfl) al0 ?_
      refine w_icmp_ge k295 rfl (fun c => ?_) (fun c => ?_)
      · replace h := if_t c h
        refine w_ls [(0, aR 48 0), (1, aI l1), (3, aJ l3)] (lq_c rfl (lq_c rfl (lq_c rfl lq_n))) ?_
        obtain rfl := Option.some.inj h
        obtain rfl := lpn_r hn7
        exact kE10 (l3, Y) rfl
      · replace h := if_f c h
        obtain ⟨hc12, h⟩ := ck_some h
        refine w_sg k295 7 (pc' := 54) (ls' := [(0, aR 48 0), (1, aI l1), (2, aI l2), (3, aJ l3), (5, aI l5)]) (st' := [aJ (((nI 122)).toInt64), aJ (((nI 97)).toInt64), aJ ((gI Y.1 60 0 (ix l5)).toInt64)]) (cs' := [vp_in l5 500]) (fun _ => rfl) (al1 (vin hc12)) ?_
        obtain ⟨v15, Y13, hv14, h⟩ := bd_some h
        refine w_cS1 k295 (sn_166 _ _ _ _ _ hv14) rfl (st := []) rfl ?_ (fun _ _ q => q.elim)
        refine w_if_ne k295 rfl (fun c => ?_) (fun c => ?_)
        · replace h := if_f c h
          refine w_sg k295 8 (pc' := 75) (ls' := [(0, aR 48 0), (1, aI l1), (2, aI l2), (3, aJ l3), (5, aI l5)]) (st' := [aJ ((gI Y13.1 60 0 (ix l5)).toInt64), aJ ((((nI 32)).toInt64) * l3)]) (cs' := [vp_in l5 500]) (fun _ => rfl) (al1 (vin hc12)) ?_
          refine w_sg k295 4 (pc' := 81) (ls' := [(0, aR 48 0), (1, aI l1), (2, aI l2), (3, aJ ((((((nI 32)).toInt64) * l3) + ((gI Y13.1 60 0 (ix l5)).toInt64)) - (((nI 96)).toInt64))), (5, aI l5)]) (st' := []) (cs' := []) (fun _ => rfl) al0 ?_
          refine w_sg k295 1 (pc' := 84) (ls' := [(0, aR 48 0), (1, aI l1), (2, aI l2), (3, aJ ((((((nI 32)).toInt64) * l3) + ((gI Y13.1 60 0 (ix l5)).toInt64)) - (((nI 96)).toInt64))), (5, aI (l5 + (nI 1)))]) (st' := []) (cs' := []) (fun _ => rfl) al0 ?_
          refine w_sg k295 1 (pc' := 34) (ls' := [(0, aR 48 0), (1, aI l1), (2, aI l2), (3, aJ ((((((nI 32)).toInt64) * l3) + ((gI Y13.1 60 0 (ix l5)).toInt64)) - (((nI 96)).toInt64))), (5, aI (l5 + (nI 1)))]) (st' := []) (cs' := []) (fun _ => rfl) al0 ?_
          refine w_ls [(0, aR 48 0), (1, aI l1), (2, aI l2), (3, aJ ((((((nI 32)).toInt64) * l3) + ((gI Y13.1 60 0 (ix l5)).toInt64)) - (((nI 96)).toInt64))), (5, aI (l5 + (nI 1)))] (lq_c rfl (lq_c rfl (lq_c rfl (lq_c rfl (lq_c rfl lq_n))))) ?_
          obtain rfl := Option.some.inj h
          exact ih8 _ _ _ _ (lpn_l hn7) kE10 kR11
        · replace h := if_t c h
          refine w_sg k295 1 (pc' := 61) (ls' := [(0, aR 48 0), (1, aI l1), (2, aI l2), (3, aJ l3), (5, aI l5)]) (st' := [aI (-1 : Int32)]) (cs' := []) (fun _ => rfl) al0 ?_
          obtain rfl := Option.some.inj h
          obtain rfl := lpn_r hn7
          obtain rfl := kR11 _ rfl
          exact w_ireturn k295 ⟨rfl, rfl⟩
  have J87_0 : ∀ (l1 : Int32) (l3 : Int64) (Y : Sm), fn_295_J87 l1 l3 Y = some o → Wm 5 0 295 0 87 [(0, aR 48 0), (1, aI l1), (3, aJ l3)] [] Y (Rt (some (aI o.1)) o.2) nX := by
    intro l1 l3 Y h
    unfold fn_295_J87 at h
    refine w_sg k295 1 (pc' := 88) (ls' := [(0, aR 48 0), (1, aI l1), (3, aJ l3)]) (st' := [aI l1]) (cs' := []) (fun _ => rfl) al0 ?_
    refine w_if_eq k295 rfl (fun c => ?_) (fun c => ?_)
    · replace h := if_t c h
      refine w_sg k295 5 (pc' := 115) (ls' := [(0, aR 48 0), (1, aI l1), (3, aJ l3)]) (st' := [aJ l3, aI (gI Y.1 48 0 1), aR 50 0]) (cs' := []) (fun _ => rfl) al0 ?_
      obtain ⟨v18, Y16, hv17, h⟩ := bd_some h
      refine w_cS1 k295 (sn_282_50 _ _ _ _ hv17) rfl (st := []) rfl ?_ (fun _ _ q => q.elim)
      obtain rfl := Option.some.inj h
      exact w_ireturn k295 ⟨rfl, rfl⟩
    · replace h := if_f c h
      refine w_sg k295 5 (pc' := 100) (ls' := [(0, aR 48 0), (1, aI l1), (3, aJ l3)]) (st' := [aJ l3, aI (gI Y.1 48 0 2), aR 51 0]) (cs' := []) (fun _ => rfl) al0 ?_
      obtain ⟨v21, Y19, hv20, h⟩ := bd_some h
      refine w_cS1 k295 (sn_282_51 _ _ _ _ hv20) rfl (st := []) rfl ?_ (fun _ _ q => q.elim)
      refine w_sg k295 1 (pc' := 118) (ls' := [(0, aR 48 0), (1, aI l1), (3, aJ l3)]) (st' := [aI v21]) (cs' := []) (fun _ => rfl) al0 ?_
      obtain rfl := Option.some.inj h
      exact w_ireturn k295 ⟨rfl, rfl⟩
  refine w_sw k295 3 (Z := (sI Y 48 0 0 (nI 0))) (pc' := 5) (ls' := [(0, aR 48 0), (1, aI a1)]) (st' := []) (cs' := [allw 48 0]) (fun _ => rfl) rfl (al1 rfl) ?_
  replace h := wr_some h
  generalize (sI Y 48 0 0 (nI 0)) = Y1 at h ⊢
  refine w_sg k295 3 (pc' := 10) (ls' := [(0, aR 48 0), (1, aI a1), (2, aI (gI Y1.1 48 0 23))]) (st' := []) (cs' := []) (fun _ => rfl) al0 ?_
  refine w_sw k295 3 (Z := (sI Y1 48 0 23 (nI 0))) (pc' := 15) (ls' := [(0, aR 48 0), (1, aI a1), (2, aI (gI Y1.1 48 0 23))]) (st' := []) (cs' := [allw 48 0]) (fun _ => rfl) rfl (al1 rfl) ?_
  replace h := wr_some h
  generalize (sI Y1 48 0 23 (nI 0)) = Y2 at h ⊢
  refine w_sg k295 4 (pc' := 21) (ls' := [(0, aR 48 0), (1, aI a1), (2, aI (gI Y1.1 48 0 23))]) (st' := [aJ (((nI 6)).toInt64), aJ (Int64.ofNat 1), aJ ((gI Y1.1 48 0 23).toInt64)]) (cs' := []) (fun _ => rfl) al0 ?_
  obtain ⟨v5, Y3, hv4, h⟩ := bd_some h
  refine w_cS1 k295 (sn_166 _ _ _ _ _ hv4) rfl (st := []) rfl ?_ (fun _ _ q => q.elim)
  refine w_if_ne k295 rfl (fun c => ?_) (fun c => ?_)
  · replace h := if_f c h
    refine w_sg k295 2 (pc' := 31) (ls' := [(0, aR 48 0), (1, aI a1), (2, aI (gI Y1.1 48 0 23)), (3, aJ (Int64.ofNat 0))]) (st' := []) (cs' := []) (fun _ => rfl) al0 ?_
    refine w_sg k295 2 (pc' := 34) (ls' := [(0, aR 48 0), (1, aI a1), (2, aI (gI Y1.1 48 0 23)), (3, aJ (Int64.ofNat 0)), (5, aI (nI 0))]) (st' := []) (cs' := []) (fun _ => rfl) al0 ?_
    obtain ⟨e24, hl22, hx23⟩ := exd_some h
    refine w_ls [(0, aR 48 0), (1, aI a1), (2, aI (gI Y1.1 48 0 23)), (3, aJ (Int64.ofNat 0)), (5, aI (nI 0))] (lq_c rfl (lq_c rfl (lq_c rfl (lq_c rfl (lq_c rfl lq_n))))) ?_
    refine L34_0 _ _ _ _ _ _ e24 hl22 (fun s9 hs9 => ?_) (fun r9 hr9 => ?_)
    · subst hs9
      replace h : fn_295_J87 a1 s9.1 s9.2 = some o := hx23
      refine w_ls [(0, aR 48 0), (1, aI a1), (3, aJ s9.1)] (lq_c rfl (lq_c rfl (lq_c rfl lq_n))) ?_
      exact J87_0 _ _ _ h
    · subst hr9
      exact hx23
  · replace h := if_t c h
    refine w_sg k295 1 (pc' := 28) (ls' := [(0, aR 48 0), (1, aI a1), (2, aI (gI Y1.1 48 0 23))]) (st' := [aI (-1 : Int32)]) (cs' := []) (fun _ => rfl) al0 ?_
    obtain rfl := Option.some.inj h
    exact w_ireturn k295 ⟨rfl, rfl⟩
set_option maxRecDepth 20000 in
set_option maxHeartbeats 4000000 in
/-- BallotBusModel.says -/
theorem sn_296 (a1 : Int32) {Y : Sm} (v : Unit) (Z : Sm) (h : fn_296 a1 Y = some (v, Z)) : Mt 4 0 296 [aR 48 0, aI a1] Y (Rt none Z) nX := by
  refine Mt_of [(0, aR 48 0), (1, aI a1)] ?_
  generalize ho : (v, Z) = o at h
  have hv9 : v = o.1 := congrArg Prod.fst ho
  have hZ9 : Z = o.2 := congrArg Prod.snd ho
  clear ho
  subst hv9 hZ9
  unfold fn_296 at h
  obtain ⟨hc1, h⟩ := ck_some h
  refine w_sw k296 7 (Z := (sI Y 65 0 (ix (gI Y.1 48 0 41)) ((((a1).toInt8.toInt32)).toInt8.toInt32))) (pc' := 11) (ls' := [(0, aR 48 0), (1, aI a1)]) (st' := []) (cs' := [vp_in (gI Y.1 48 0 41) 60, allw 65 0]) (fun _ => rfl) rfl (al2 (vin hc1) (al1 rfl)) ?_
  replace h := wr_some h
  generalize (sI Y 65 0 (ix (gI Y.1 48 0 41)) ((((a1).toInt8.toInt32)).toInt8.toInt32)) = Y2 at h ⊢
  refine w_sw k296 6 (Z := (sI Y2 48 0 41 ((gI Y2.1 48 0 41) + (nI 1)))) (pc' := 21) (ls' := [(0, aR 48 0), (1, aI a1)]) (st' := []) (cs' := [allw 48 0]) (fun _ => rfl) rfl (al1 rfl) ?_
  replace h := wr_some h
  generalize (sI Y2 48 0 41 ((gI Y2.1 48 0 41) + (nI 1))) = Y3 at h ⊢
  obtain rfl := Option.some.inj h
  exact w_return k296 ⟨rfl, rfl⟩
set_option maxRecDepth 20000 in
set_option maxHeartbeats 4000000 in
/-- BallotBusModel.saysName -/
theorem sn_297 : ∀ (n : Nat) (a1 : Int64) {Y : Sm} (v : Unit) (Z : Sm) (h : fn_297 n a1 Y = some (v, Z)), Mt (n + 5) 0 297 [aR 48 0, aJ a1] Y (Rt none Z) nX := by
  intro n
  induction n with
  | zero => intro a1 Y v Z h; cases h
  | succ n ih =>
  intro a1 Y v Z h
  refine Mt_of [(0, aR 48 0), (1, aJ a1)] ?_
  generalize ho : (v, Z) = o at h
  have hv9 : v = o.1 := congrArg Prod.fst ho
  have hZ9 : Z = o.2 := congrArg Prod.snd ho
  clear ho
  subst hv9 hZ9
  unfold fn_297 at h
  refine w_sg k297 3 (pc' := 5) (ls' := [(0, aR 48 0), (1, aJ a1)]) (st' := [aI (lg_cmp a1 (((nI 31)).toInt64))]) (cs' := []) (fun _ => rfl) al0 ?_
  refine w_if_le k297 rfl (fun c => ?_) (fun c => ?_)
  · replace h := if_t c h
    refine w_sg k297 7 (pc' := 25) (ls' := [(0, aR 48 0), (1, aJ a1)]) (st' := [aI ((((a1 &&& (((nI 31)).toInt64))).toInt32) + (nI 96)), aR 48 0]) (cs' := []) (fun _ => rfl) al0 ?_
    obtain ⟨_, Y1, hv2, h⟩ := bd_some h
    refine w_cV0 k297 (sn_296 _ _ _ hv2) rfl (st := []) rfl ?_ (fun _ _ q => q.elim)
    obtain rfl := Option.some.inj h
    exact w_return k297 ⟨rfl, rfl⟩
  · replace h := if_f c h
    refine w_sg k297 4 (pc' := 12) (ls' := [(0, aR 48 0), (1, aJ a1)]) (st' := [aJ (a1 >>> ((nI 5).toInt64 &&& 63)), aR 48 0]) (cs' := []) (fun _ => rfl) al0 ?_
    obtain ⟨_, Y3, hv4, h⟩ := bd_some h
    refine w_cV0 k297 (ih _ _ _ hv4) rfl (st := []) rfl ?_ (fun _ _ q => q.elim) (hd := nbl _)
    refine w_sg k297 7 (pc' := 25) (ls' := [(0, aR 48 0), (1, aJ a1)]) (st' := [aI ((((a1 &&& (((nI 31)).toInt64))).toInt32) + (nI 96)), aR 48 0]) (cs' := []) (fun _ => rfl) al0 ?_
    obtain ⟨_, Y5, hv6, h⟩ := bd_some h
    refine w_cV0 k297 (sn_296 _ _ _ hv6) rfl (st := []) rfl ?_ (fun _ _ q => q.elim)
    obtain rfl := Option.some.inj h
    exact w_return k297 ⟨rfl, rfl⟩
set_option maxRecDepth 20000 in
set_option maxHeartbeats 4000000 in
/-- BallotBusModel.printOrder -/
theorem sn_298 {Y : Sm} (v : Int32) (Z : Sm) (h : fn_298 Y = some (v, Z)) : Mt 14 0 298 [aR 48 0] Y (Rt (some (aI v)) Z) nX := by
  refine Mt_of [(0, aR 48 0)] ?_
  generalize ho : (v, Z) = o at h
  have hv9 : v = o.1 := congrArg Prod.fst ho
  have hZ9 : Z = o.2 := congrArg Prod.snd ho
  clear ho
  subst hv9 hZ9
  unfold fn_298 at h
  have L12_0 : ∀ (n : Nat) (l1 : Int32) (Y : Sm), lp (fun s => fn_298_L12 s.1 s.2) n (l1, Y) = some o → Wm 14 0 298 0 12 [(0, aR 48 0), (1, aI l1)] [] Y (Rt (some (aI o.1)) o.2) nX := by
    intro n
    induction n with
    | zero => intro l1 Y h; cases h
    | succ n ih5 =>
      intro l1 Y h
      obtain ⟨q3, h, hn4⟩ := lp_succ h
      replace h : fn_298_L12 l1 Y = some q3 := h
      unfold fn_298_L12 at h
      have J42_0 : ∀ (l1 : Int32) (Y : Sm), fn_298_J42_d1 l1 Y = some q3 → Wm 14 0 298 0 42 [(0, aR 48 0), (1, aI l1)] [] Y (Rt (some (aI o.1)) o.2) nX := by
        intro l1 Y h
        unfold fn_298_J42_d1 at h
        refine w_sg k298 8 (pc' := 55) (ls' := [(0, aR 48 0), (1, aI l1)]) (st' := [aI ((nI 10) + l1), aR 52 0, aR 50 0, aR 48 0]) (cs' := []) (fun _ => rfl) al0 ?_
        obtain ⟨hc6, h⟩ := ck_some h
        obtain ⟨hc7, h⟩ := ck_some h
        refine w_sg k298 2 (pc' := 57) (ls' := [(0, aR 48 0), (1, aI l1)]) (st' := [aJ (gJ Y.1 50 0 (ix (gI Y.1 52 0 (ix ((nI 10) + l1))))), aR 48 0]) (cs' := [vp_in ((nI 10) + l1) 718, vp_in (gI Y.1 52 0 (ix ((nI 10) + l1))) 5]) (fun _ => rfl) (al2 (vin hc6) (al1 (vin hc7))) ?_
        obtain ⟨_, Y8, hv9, h⟩ := bd_some h
        refine w_cV0 k298 (sn_297 8 _ _ _ hv9) rfl (st := []) rfl ?_ (fun _ _ q => q.elim)
        refine w_sg k298 8 (pc' := 73) (ls' := [(0, aR 48 0), (1, aI l1)]) (st' := [aI l1, aI (nI 10), aR 52 0, aI (gI Y8.1 52 0 4)]) (cs' := [vp_in (nI 4) 718]) (fun _ => rfl) (al1 (vin rfl)) ?_
        refine w_sg k298 2 (pc' := 75) (ls' := [(0, aR 48 0), (1, aI l1)]) (st' := [aI (gI Y8.1 52 0 (ix ((nI 10) + l1))), aI (gI Y8.1 52 0 4)]) (cs' := [vp_in ((nI 10) + l1) 718]) (fun _ => rfl) (al1 (vin hc6)) ?_
        obtain ⟨v12, Y10, hv11, h⟩ := bd_some h
        refine w_cS1 k298 (sn_167 _ _ _ _ hv11) rfl (st := []) rfl ?_ (fun _ _ q => q.elim)
        refine w_if_eq k298 rfl (fun c => ?_) (fun c => ?_)
        · replace h := if_t c h
          refine w_sg k298 1 (pc' := 90) (ls' := [(0, aR 48 0), (1, aI (l1 + (nI 1)))]) (st' := []) (cs' := []) (fun _ => rfl) al0 ?_
          refine w_sg k298 1 (pc' := 12) (ls' := [(0, aR 48 0), (1, aI (l1 + (nI 1)))]) (st' := []) (cs' := []) (fun _ => rfl) al0 ?_
          refine w_ls [(0, aR 48 0), (1, aI (l1 + (nI 1)))] (lq_c rfl (lq_c rfl lq_n)) ?_
          obtain rfl := Option.some.inj h
          exact ih5 _ _ (lpn_l hn4)
        · replace h := if_f c h
          refine w_sg k298 2 (pc' := 84) (ls' := [(0, aR 48 0), (1, aI l1)]) (st' := [aI (nI 42), aR 48 0]) (cs' := []) (fun _ => rfl) al0 ?_
          obtain ⟨_, Y13, hv14, h⟩ := bd_some h
          refine w_cV0 k298 (sn_296 _ _ _ hv14) rfl (st := []) rfl ?_ (fun _ _ q => q.elim)
          refine w_sg k298 1 (pc' := 90) (ls' := [(0, aR 48 0), (1, aI (l1 + (nI 1)))]) (st' := []) (cs' := []) (fun _ => rfl) al0 ?_
          refine w_sg k298 1 (pc' := 12) (ls' := [(0, aR 48 0), (1, aI (l1 + (nI 1)))]) (st' := []) (cs' := []) (fun _ => rfl) al0 ?_
          refine w_ls [(0, aR 48 0), (1, aI (l1 + (nI 1)))] (lq_c rfl (lq_c rfl lq_n)) ?_
          obtain rfl := Option.some.inj h
          exact ih5 _ _ (lpn_l hn4)
      refine w_sg k298 3 (pc' := 17) (ls' := [(0, aR 48 0), (1, aI l1)]) (st' := [aI (gI Y.1 48 0 1), aI l1]) (cs' := []) (fun _ => rfl) al0 ?_
      refine w_icmp_ge k298 rfl (fun c => ?_) (fun c => ?_)
      · replace h := if_t c h
        refine w_sg k298 2 (pc' := 97) (ls' := [(0, aR 48 0), (1, aI l1)]) (st' := [aI (gI Y.1 48 0 41)]) (cs' := []) (fun _ => rfl) al0 ?_
        obtain rfl := Option.some.inj h
        obtain rfl := lpn_r hn4
        exact w_ireturn k298 ⟨rfl, rfl⟩
      · replace h := if_f c h
        refine w_sg k298 1 (pc' := 21) (ls' := [(0, aR 48 0), (1, aI l1)]) (st' := [aI l1]) (cs' := []) (fun _ => rfl) al0 ?_
        refine w_if_le k298 rfl (fun c => ?_) (fun c => ?_)
        · replace h := if_t c h
          refine w_ls [(0, aR 48 0), (1, aI l1)] (lq_c rfl (lq_c rfl lq_n)) ?_
          exact J42_0 _ _ h
        · replace h := if_f c h
          refine w_sg k298 2 (pc' := 27) (ls' := [(0, aR 48 0), (1, aI l1)]) (st' := [aI (nI 32), aR 48 0]) (cs' := []) (fun _ => rfl) al0 ?_
          obtain ⟨_, Y15, hv16, h⟩ := bd_some h
          refine w_cV0 k298 (sn_296 _ _ _ hv16) rfl (st := []) rfl ?_ (fun _ _ q => q.elim)
          refine w_sg k298 2 (pc' := 33) (ls' := [(0, aR 48 0), (1, aI l1)]) (st' := [aI (nI 62), aR 48 0]) (cs' := []) (fun _ => rfl) al0 ?_
          obtain ⟨_, Y17, hv18, h⟩ := bd_some h
          refine w_cV0 k298 (sn_296 _ _ _ hv18) rfl (st := []) rfl ?_ (fun _ _ q => q.elim)
          refine w_sg k298 2 (pc' := 39) (ls' := [(0, aR 48 0), (1, aI l1)]) (st' := [aI (nI 32), aR 48 0]) (cs' := []) (fun _ => rfl) al0 ?_
          obtain ⟨_, Y19, hv20, h⟩ := bd_some h
          refine w_cV0 k298 (sn_296 _ _ _ hv20) rfl (st := []) rfl ?_ (fun _ _ q => q.elim)
          refine w_ls [(0, aR 48 0), (1, aI l1)] (lq_c rfl (lq_c rfl lq_n)) ?_
          exact J42_0 _ _ h
  refine w_sw k298 3 (Z := (sI Y 48 0 0 (nI 0))) (pc' := 5) (ls' := [(0, aR 48 0)]) (st' := []) (cs' := [allw 48 0]) (fun _ => rfl) rfl (al1 rfl) ?_
  replace h := wr_some h
  generalize (sI Y 48 0 0 (nI 0)) = Y1 at h ⊢
  refine w_sw k298 3 (Z := (sI Y1 48 0 41 (nI 0))) (pc' := 10) (ls' := [(0, aR 48 0)]) (st' := []) (cs' := [allw 48 0]) (fun _ => rfl) rfl (al1 rfl) ?_
  replace h := wr_some h
  generalize (sI Y1 48 0 41 (nI 0)) = Y2 at h ⊢
  refine w_sg k298 2 (pc' := 12) (ls' := [(0, aR 48 0), (1, aI (nI 0))]) (st' := []) (cs' := []) (fun _ => rfl) al0 ?_
  refine w_ls [(0, aR 48 0), (1, aI (nI 0))] (lq_c rfl (lq_c rfl lq_n)) ?_
  exact L12_0 _ _ _ h
set_option maxRecDepth 20000 in
set_option maxHeartbeats 4000000 in
/-- BallotBusModel.outputByte -/
theorem sn_299 (a1 : Int32) {Y : Sm} (v : Int32) (Z : Sm) (h : fn_299 a1 Y = some (v, Z)) : Mt 5 0 299 [aR 48 0, aI a1] Y (Rt (some (aI v)) Z) nX := by
  refine Mt_of [(0, aR 48 0), (1, aI a1)] ?_
  generalize ho : (v, Z) = o at h
  have hv9 : v = o.1 := congrArg Prod.fst ho
  have hZ9 : Z = o.2 := congrArg Prod.snd ho
  clear ho
  subst hv9 hZ9
  unfold fn_299 at h
  refine w_sw k299 3 (Z := (sI Y 48 0 0 (nI 0))) (pc' := 5) (ls' := [(0, aR 48 0), (1, aI a1)]) (st' := []) (cs' := [allw 48 0]) (fun _ => rfl) rfl (al1 rfl) ?_
  replace h := wr_some h
  generalize (sI Y 48 0 0 (nI 0)) = Y1 at h ⊢
  refine w_sg k299 8 (pc' := 15) (ls' := [(0, aR 48 0), (1, aI a1)]) (st' := [aJ (((gI Y1.1 48 0 41).toInt64) - (Int64.ofNat 1)), aJ (Int64.ofNat 0), aJ ((a1).toInt64)]) (cs' := []) (fun _ => rfl) al0 ?_
  obtain ⟨v4, Y2, hv3, h⟩ := bd_some h
  refine w_cS1 k299 (sn_166 _ _ _ _ _ hv3) rfl (st := []) rfl ?_ (fun _ _ q => q.elim)
  refine w_if_eq k299 rfl (fun c => ?_) (fun c => ?_)
  · replace h := if_t c h
    refine w_sg k299 1 (pc' := 31) (ls' := [(0, aR 48 0), (1, aI a1)]) (st' := [aI (-1 : Int32)]) (cs' := []) (fun _ => rfl) al0 ?_
    obtain rfl := Option.some.inj h
    exact w_ireturn k299 ⟨rfl, rfl⟩
  · replace h := if_f c h
    obtain ⟨hc5, h⟩ := ck_some h
    refine w_sg k299 5 (pc' := 31) (ls' := [(0, aR 48 0), (1, aI a1)]) (st' := [aI (gI Y2.1 65 0 (ix a1))]) (cs' := [vp_in a1 60]) (fun _ => rfl) (al1 (vin hc5)) ?_
    obtain rfl := Option.some.inj h
    exact w_ireturn k299 ⟨rfl, rfl⟩
