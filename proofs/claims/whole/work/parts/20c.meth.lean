/-! the code of the methods does what their functions say (printed by wip/whole/gen20.py) -/
set_option maxRecDepth 20000 in
set_option maxHeartbeats 4000000 in
/-- BallotBus$Input.asName -/
theorem sn_22 {Y : Sm} (v : Int64) (Z : Sm) (h : fn_22 Y = some (v, Z)) : Mt 6 0 22 [aR 1 0] Y (Rt (some (aJ v)) Z) nX := by
  refine Mt_of [(0, aR 1 0)] ?_
  generalize ho : (v, Z) = o at h
  have hv9 : v = o.1 := congrArg Prod.fst ho
  have hZ9 : Z = o.2 := congrArg Prod.snd ho
  clear ho
  subst hv9 hZ9
  unfold fn_22 at h
  have L23_0 : ∀ (n : Nat) (l1 : Int32) (Y : Sm) (e4 : (Sm) ⊕ (Int64 × Sm)), lp (fun s => fn_22_L23 s.1 s.2) n (l1, Y) = some e4 → (∀ s9 : (Sm), e4 = .inl s9 → Wm 6 0 22 0 49 [(0, aR 1 0)] [] s9 (Rt (some (aJ o.1)) o.2) nX) → (∀ r, e4 = .inr r → r = o) → Wm 6 0 22 0 23 [(0, aR 1 0), (1, aI l1)] [] Y (Rt (some (aJ o.1)) o.2) nX := by
    intro n
    induction n with
    | zero => intro l1 Y e4 h; cases h
    | succ n ih3 =>
      intro l1 Y e4 h kE5 kR6
      obtain ⟨q1, h, hn2⟩ := lp_succ h
      replace h : fn_22_L23 l1 Y = some q1 := h
      unfold fn_22_L23 at h
      refine w_sg k22 3 (pc' := 28) (ls' := [(0, aR 1 0), (1, aI l1)]) (st' := [aI (gI Y.1 1 0 1), aI l1]) (cs' := []) (fun _ => rfl) al0 ?_
      refine w_icmp_ge k22 rfl (fun c => ?_) (fun c => ?_)
      · replace h := if_t c h
        refine w_ls [(0, aR 1 0)] (lq_c rfl lq_n) ?_
        obtain rfl := Option.some.inj h
        obtain rfl := lpn_r hn2
        exact kE5 (Y) rfl
      · replace h := if_f c h
        refine w_sg k22 2 (pc' := 33) (ls' := [(0, aR 1 0), (1, aI l1)]) (st' := [aI l1, aR 1 0]) (cs' := []) (fun _ => rfl) al0 ?_
        obtain ⟨v9, Y7, hv8, h⟩ := bd_some h
        refine w_cV1 k22 (sn_19 _ _ _ hv8) rfl (st := []) rfl ?_ (fun _ _ q => q.elim)
        refine w_if_ne k22 rfl (fun c => ?_) (fun c => ?_)
        · replace h := if_f c h
          refine w_sg k22 1 (pc' := 46) (ls' := [(0, aR 1 0), (1, aI (l1 + (nI 1)))]) (st' := []) (cs' := []) (fun _ => rfl) al0 ?_
          refine w_sg k22 1 (pc' := 23) (ls' := [(0, aR 1 0), (1, aI (l1 + (nI 1)))]) (st' := []) (cs' := []) (fun _ => rfl) al0 ?_
          refine w_ls [(0, aR 1 0), (1, aI (l1 + (nI 1)))] (lq_c rfl (lq_c rfl lq_n)) ?_
          obtain rfl := Option.some.inj h
          exact ih3 _ _ _ (lpn_l hn2) kE5 kR6
        · replace h := if_t c h
          refine w_sg k22 1 (pc' := 42) (ls' := [(0, aR 1 0), (1, aI l1)]) (st' := [aJ (((-1 : Int32)).toInt64)]) (cs' := []) (fun _ => rfl) al0 ?_
          obtain rfl := Option.some.inj h
          obtain rfl := lpn_r hn2
          obtain rfl := kR6 _ rfl
          exact w_lreturn k22 ⟨rfl, rfl⟩
  have J49_0 : ∀ (Y : Sm), fn_22_J49 Y = some o → Wm 6 0 22 0 49 [(0, aR 1 0)] [] Y (Rt (some (aJ o.1)) o.2) nX := by
    intro Y h
    unfold fn_22_J49 at h
    refine w_sg k22 4 (pc' := 55) (ls' := [(0, aR 1 0)]) (st' := [aI (gI Y.1 1 0 1), aI (nI 0), aR 1 0]) (cs' := []) (fun _ => rfl) al0 ?_
    obtain ⟨v12, Y10, hv11, h⟩ := bd_some h
    refine w_cV1 k22 (sn_23 _ _ _ _ hv11) rfl (st := []) rfl ?_ (fun _ _ q => q.elim)
    obtain rfl := Option.some.inj h
    exact w_lreturn k22 ⟨rfl, rfl⟩
  refine w_sg k22 3 (pc' := 5) (ls' := [(0, aR 1 0)]) (st' := [aI (nI 1), aI (gI Y.1 1 0 1)]) (cs' := []) (fun _ => rfl) al0 ?_
  refine w_icmp_lt k22 rfl (fun c => ?_) (fun c => ?_)
  · replace h := if_t c h
    refine w_sg k22 1 (pc' := 20) (ls' := [(0, aR 1 0)]) (st' := [aJ (((-1 : Int32)).toInt64)]) (cs' := []) (fun _ => rfl) al0 ?_
    obtain rfl := Option.some.inj h
    exact w_lreturn k22 ⟨rfl, rfl⟩
  · replace h := if_f c h
    refine w_sg k22 3 (pc' := 14) (ls' := [(0, aR 1 0)]) (st' := [aI (nI 6), aI (gI Y.1 1 0 1)]) (cs' := []) (fun _ => rfl) al0 ?_
    refine w_icmp_le k22 rfl (fun c => ?_) (fun c => ?_)
    · replace h := if_t c h
      refine w_sg k22 2 (pc' := 23) (ls' := [(0, aR 1 0), (1, aI (nI 0))]) (st' := []) (cs' := []) (fun _ => rfl) al0 ?_
      obtain ⟨e15, hl13, hx14⟩ := exd_some h
      refine w_ls [(0, aR 1 0), (1, aI (nI 0))] (lq_c rfl (lq_c rfl lq_n)) ?_
      refine L23_0 _ _ _ e15 hl13 (fun s9 hs9 => ?_) (fun r9 hr9 => ?_)
      · subst hs9
        replace h : fn_22_J49 s9 = some o := hx14
        refine w_ls [(0, aR 1 0)] (lq_c rfl lq_n) ?_
        exact J49_0 _ h
      · subst hr9
        exact hx14
    · replace h := if_f c h
      refine w_sg k22 1 (pc' := 20) (ls' := [(0, aR 1 0)]) (st' := [aJ (((-1 : Int32)).toInt64)]) (cs' := []) (fun _ => rfl) al0 ?_
      obtain rfl := Option.some.inj h
      exact w_lreturn k22 ⟨rfl, rfl⟩
set_option maxRecDepth 20000 in
set_option maxHeartbeats 4000000 in
/-- BallotBus.find -/
theorem sn_110 (a1 : Int32) {Y : Sm} (v : Int32) (Z : Sm) (h : fn_110 a1 Y = some (v, Z)) : Mt 7 0 110 [aR 0 0, aI a1] Y (Rt (some (aI v)) Z) nX := by
  refine Mt_of [(0, aR 0 0), (1, aI a1)] ?_
  generalize ho : (v, Z) = o at h
  have hv9 : v = o.1 := congrArg Prod.fst ho
  have hZ9 : Z = o.2 := congrArg Prod.snd ho
  clear ho
  subst hv9 hZ9
  unfold fn_110 at h
  refine w_sg k110 2 (pc' := 4) (ls' := [(0, aR 0 0), (1, aI a1)]) (st' := [aR 1 0]) (cs' := []) (fun _ => rfl) al0 ?_
  obtain ⟨v3, Y1, hv2, h⟩ := bd_some h
  refine w_cV1 k110 (sn_22  _ _ hv2) rfl (st := []) rfl ?_ (fun _ _ q => q.elim)
  refine w_sg k110 1 (pc' := 8) (ls' := [(0, aR 0 0), (1, aI a1), (2, aJ v3)]) (st' := []) (cs' := []) (fun _ => rfl) al0 ?_
  refine w_sw k110 4 (Z := (sI Y1 1 0 1 (nI 0))) (pc' := 16) (ls' := [(0, aR 0 0), (1, aI a1), (2, aJ v3)]) (st' := []) (cs' := [allw 1 0]) (fun _ => rfl) rfl (al1 rfl) ?_
  replace h := wr_some h
  generalize (sI Y1 1 0 1 (nI 0)) = Y4 at h ⊢
  refine w_sg k110 1 (pc' := 17) (ls' := [(0, aR 0 0), (1, aI a1), (2, aJ v3)]) (st' := [aI a1]) (cs' := []) (fun _ => rfl) al0 ?_
  refine w_if_eq k110 rfl (fun c => ?_) (fun c => ?_)
  · replace h := if_t c h
    refine w_sg k110 3 (pc' := 36) (ls' := [(0, aR 0 0), (1, aI a1), (2, aJ v3)]) (st' := [aJ v3, aR 5 (Y4.2 0)]) (cs' := []) (fun _ => rfl) al0 ?_
    obtain ⟨v7, Y5, hv6, h⟩ := bd_some h
    refine w_cV1 k110 (sn_56 _ _ _ _ hv6) rfl (st := []) rfl ?_ (fun _ _ q => q.elim)
    obtain rfl := Option.some.inj h
    exact w_ireturn k110 ⟨rfl, rfl⟩
  · replace h := if_f c h
    refine w_sg k110 3 (pc' := 25) (ls' := [(0, aR 0 0), (1, aI a1), (2, aJ v3)]) (st' := [aJ v3, aR 5 (Y4.2 0)]) (cs' := []) (fun _ => rfl) al0 ?_
    obtain ⟨v10, Y8, hv9, h⟩ := bd_some h
    refine w_cV1 k110 (sn_57 _ _ _ _ hv9) rfl (st := []) rfl ?_ (fun _ _ q => q.elim)
    refine w_sg k110 1 (pc' := 39) (ls' := [(0, aR 0 0), (1, aI a1), (2, aJ v3)]) (st' := [aI v10]) (cs' := []) (fun _ => rfl) al0 ?_
    obtain rfl := Option.some.inj h
    exact w_ireturn k110 ⟨rfl, rfl⟩
set_option maxRecDepth 20000 in
set_option maxHeartbeats 4000000 in
/-- BallotBus.checkAsker -/
theorem sn_154 (a1 : Int32) {Y : Sm} (v : (Unit ⊕ Nat)) (Z : Sm) (h : fn_154 a1 Y = some (v, Z)) : Mt 6 1 154 [aR 0 0, aI a1] Y (Pz (fun _ => none) v Z) (Ez v Z) := by
  refine Mt_of [(0, aR 0 0), (1, aI a1)] ?_
  generalize ho : (v, Z) = o at h
  have hv9 : v = o.1 := congrArg Prod.fst ho
  have hZ9 : Z = o.2 := congrArg Prod.snd ho
  clear ho
  subst hv9 hZ9
  unfold fn_154 at h
  refine w_sg k154 1 (pc' := 1) (ls' := [(0, aR 0 0), (1, aI a1)]) (st' := [aI a1]) (cs' := []) (fun _ => rfl) al0 ?_
  refine w_if_lt k154 rfl (fun c => ?_) (fun c => ?_)
  · replace h := if_t c h
    obtain rfl := Option.some.inj h
    exact w_throw k154 rfl rfl Ez_r
  · replace h := if_f c h
    refine w_sg k154 4 (pc' := 12) (ls' := [(0, aR 0 0), (1, aI a1)]) (st' := [aI (gI Y.1 5 (Y.2 0) 3), aI a1]) (cs' := []) (fun _ => rfl) al0 ?_
    refine w_icmp_lt k154 rfl (fun c => ?_) (fun c => ?_)
    · replace h := if_t c h
      obtain rfl := Option.some.inj h
      exact w_return k154 Pz_l
    · replace h := if_f c h
      obtain rfl := Option.some.inj h
      exact w_throw k154 rfl rfl Ez_r
set_option maxRecDepth 20000 in
set_option maxHeartbeats 4000000 in
/-- BallotBus$State.isHeard -/
theorem sn_73 (i0 : Nat) (a1 : Int32) {Y : Sm} (v : Int32) (Z : Sm) (h : fn_73 i0 a1 Y = some (v, Z)) : Mt 4 0 73 [aR 21 i0, aI a1] Y (Rt (some (aI v)) Z) nX := by
  refine Mt_of [(0, aR 21 i0), (1, aI a1)] ?_
  generalize ho : (v, Z) = o at h
  have hv9 : v = o.1 := congrArg Prod.fst ho
  have hZ9 : Z = o.2 := congrArg Prod.snd ho
  clear ho
  subst hv9 hZ9
  unfold fn_73 at h
  obtain ⟨hc1, h⟩ := ck_some h
  refine w_sg k73 8 (pc' := 16) (ls' := [(0, aR 21 i0), (1, aI a1)]) (st' := [aR 11 (Y.2 (i0 + 3)), aI (gI Y.1 31 i0 (ix a1))]) (cs' := [vp_in a1 8]) (fun _ => rfl) (al1 (vin hc1)) ?_
  refine w_sg k73 2 (pc' := 18) (ls' := [(0, aR 21 i0), (1, aI a1)]) (st' := [aI (gI Y.1 11 (Y.2 (i0 + 3)) 4), aI (gI Y.1 31 i0 (ix a1))]) (cs' := [vp_in (nI 4) 5]) (fun _ => rfl) (al1 (vin rfl)) ?_
  refine w_icmp_ge k73 rfl (fun c => ?_) (fun c => ?_)
  · replace h := if_t c h
    refine w_sg k73 1 (pc' := 26) (ls' := [(0, aR 21 i0), (1, aI a1)]) (st' := [aI (nI 0)]) (cs' := []) (fun _ => rfl) al0 ?_
    obtain rfl := Option.some.inj h
    exact w_zreturn k73 (Or.inl rfl) ⟨rfl, rfl⟩
  · replace h := if_f c h
    refine w_sg k73 2 (pc' := 26) (ls' := [(0, aR 21 i0), (1, aI a1)]) (st' := [aI (nI 1)]) (cs' := []) (fun _ => rfl) al0 ?_
    obtain rfl := Option.some.inj h
    exact w_zreturn k73 (Or.inr rfl) ⟨rfl, rfl⟩
set_option maxRecDepth 20000 in
set_option maxHeartbeats 4000000 in
/-- BallotBus$Requests.waits -/
theorem sn_40 (i0 : Nat) (a1 : Int32) {Y : Sm} (v : Int32) (Z : Sm) (h : fn_40 i0 a1 Y = some (v, Z)) : Mt 4 0 40 [aR 12 i0, aI a1] Y (Rt (some (aI v)) Z) nX := by
  refine Mt_of [(0, aR 12 i0), (1, aI a1)] ?_
  generalize ho : (v, Z) = o at h
  have hv9 : v = o.1 := congrArg Prod.fst ho
  have hZ9 : Z = o.2 := congrArg Prod.snd ho
  clear ho
  subst hv9 hZ9
  unfold fn_40 at h
  refine w_sg k40 4 (pc' := 6) (ls' := [(0, aR 12 i0), (1, aI a1)]) (st' := [aR 19 i0]) (cs' := [vp_in (nI 5) 6]) (fun _ => rfl) (al1 (vin rfl)) ?_
  obtain ⟨hc1, h⟩ := ck_some h
  refine w_sg k40 4 (pc' := 12) (ls' := [(0, aR 12 i0), (1, aI a1)]) (st' := [aI (gI Y.1 12 i0 2), aI (gI Y.1 19 i0 (ix a1))]) (cs' := [vp_in a1 40]) (fun _ => rfl) (al1 (vin hc1)) ?_
  refine w_icmp_eq k40 rfl (fun c => ?_) (fun c => ?_)
  · replace h := if_t c h
    refine w_sg k40 1 (pc' := 20) (ls' := [(0, aR 12 i0), (1, aI a1)]) (st' := [aI (nI 0)]) (cs' := []) (fun _ => rfl) al0 ?_
    obtain rfl := Option.some.inj h
    exact w_zreturn k40 (Or.inl rfl) ⟨rfl, rfl⟩
  · replace h := if_f c h
    refine w_sg k40 2 (pc' := 20) (ls' := [(0, aR 12 i0), (1, aI a1)]) (st' := [aI (nI 1)]) (cs' := []) (fun _ => rfl) al0 ?_
    obtain rfl := Option.some.inj h
    exact w_zreturn k40 (Or.inr rfl) ⟨rfl, rfl⟩
set_option maxRecDepth 20000 in
set_option maxHeartbeats 4000000 in
/-- BallotBus$Requests.waitingWith -/
theorem sn_42_12_c0 (i0 : Nat) (a2 : Int32) {Y : Sm} (v : Int32) (Z : Sm) (h : fn_42_12_c0 i0 a2 Y = some (v, Z)) : Mt 5 0 42 [aR 12 i0, aI (nI 0), aI a2] Y (Rt (some (aI v)) Z) nX := by
  refine Mt_of [(0, aR 12 i0), (1, aI (nI 0)), (2, aI a2)] ?_
  generalize ho : (v, Z) = o at h
  have hv9 : v = o.1 := congrArg Prod.fst ho
  have hZ9 : Z = o.2 := congrArg Prod.snd ho
  clear ho
  subst hv9 hZ9
  unfold fn_42_12_c0 at h
  have L5_0 : ∀ (l0 : Nat) (l2 : Int32) (n : Nat) (l3 : Int32) (l4 : Int32) (Y : Sm), lp (fun s => fn_42_12_c0_L5 l0 l2 s.1 s.2.1 s.2.2) n (l3, l4, Y) = some o → Wm 5 0 42 0 5 [(0, aR 12 l0), (1, aI (nI 0)), (2, aI l2), (3, aI l3), (4, aI l4)] [] Y (Rt (some (aI o.1)) o.2) nX := by
    intro l0 l2 n
    induction n with
    | zero => intro l3 l4 Y h; cases h
    | succ n ih3 =>
      intro l3 l4 Y h
      obtain ⟨q1, h, hn2⟩ := lp_succ h
      replace h : fn_42_12_c0_L5 l0 l2 l3 l4 Y = some q1 := h
      unfold fn_42_12_c0_L5 at h
      refine w_sg k42 3 (pc' := 11) (ls' := [(0, aR 12 l0), (1, aI (nI 0)), (2, aI l2), (3, aI l3), (4, aI l4)]) (st' := [aI (gI Y.1 12 l0 1), aI l4]) (cs' := []) (fun _ => rfl) al0 ?_
      refine w_icmp_ge k42 rfl (fun c => ?_) (fun c => ?_)
      · replace h := if_t c h
        refine w_sg k42 1 (pc' := 46) (ls' := [(0, aR 12 l0), (1, aI (nI 0)), (2, aI l2), (3, aI l3), (4, aI l4)]) (st' := [aI l3]) (cs' := []) (fun _ => rfl) al0 ?_
        obtain rfl := Option.some.inj h
        obtain rfl := lpn_r hn2
        exact w_ireturn k42 ⟨rfl, rfl⟩
      · replace h := if_f c h
        refine w_sg k42 4 (pc' := 20) (ls' := [(0, aR 12 l0), (1, aI (nI 0)), (2, aI l2), (3, aI l3), (4, aI l4)]) (st' := [aR 14 l0]) (cs' := [vp_in (nI 0) 6]) (fun _ => rfl) (al1 (vin rfl)) ?_
        obtain ⟨hc4, h⟩ := ck_some h
        refine w_sg k42 3 (pc' := 24) (ls' := [(0, aR 12 l0), (1, aI (nI 0)), (2, aI l2), (3, aI l3), (4, aI l4)]) (st' := [aI l2, aI (gI Y.1 14 l0 (ix l4))]) (cs' := [vp_in l4 40]) (fun _ => rfl) (al1 (vin hc4)) ?_
        refine w_icmp_ne k42 rfl (fun c => ?_) (fun c => ?_)
        · replace h := if_f c h
          refine w_sg k42 1 (pc' := 42) (ls' := [(0, aR 12 l0), (1, aI (nI 0)), (2, aI l2), (3, aI l3), (4, aI (l4 + (nI 1)))]) (st' := []) (cs' := []) (fun _ => rfl) al0 ?_
          refine w_sg k42 1 (pc' := 5) (ls' := [(0, aR 12 l0), (1, aI (nI 0)), (2, aI l2), (3, aI l3), (4, aI (l4 + (nI 1)))]) (st' := []) (cs' := []) (fun _ => rfl) al0 ?_
          refine w_ls [(0, aR 12 l0), (1, aI (nI 0)), (2, aI l2), (3, aI l3), (4, aI (l4 + (nI 1)))] (lq_c rfl (lq_c rfl (lq_c rfl (lq_c rfl (lq_c rfl lq_n))))) ?_
          obtain rfl := Option.some.inj h
          exact ih3 _ _ _ (lpn_l hn2)
        · replace h := if_t c h
          refine w_sg k42 2 (pc' := 30) (ls' := [(0, aR 12 l0), (1, aI (nI 0)), (2, aI l2), (3, aI l3), (4, aI l4)]) (st' := [aI l4, aR 12 l0]) (cs' := []) (fun _ => rfl) al0 ?_
          obtain ⟨v7, Y5, hv6, h⟩ := bd_some h
          refine w_cV1 k42 (sn_40 _ _ _ _ hv6) rfl (st := []) rfl ?_ (fun _ _ q => q.elim)
          refine w_if_eq k42 rfl (fun c => ?_) (fun c => ?_)
          · replace h := if_t c h
            refine w_sg k42 1 (pc' := 42) (ls' := [(0, aR 12 l0), (1, aI (nI 0)), (2, aI l2), (3, aI l3), (4, aI (l4 + (nI 1)))]) (st' := []) (cs' := []) (fun _ => rfl) al0 ?_
            refine w_sg k42 1 (pc' := 5) (ls' := [(0, aR 12 l0), (1, aI (nI 0)), (2, aI l2), (3, aI l3), (4, aI (l4 + (nI 1)))]) (st' := []) (cs' := []) (fun _ => rfl) al0 ?_
            refine w_ls [(0, aR 12 l0), (1, aI (nI 0)), (2, aI l2), (3, aI l3), (4, aI (l4 + (nI 1)))] (lq_c rfl (lq_c rfl (lq_c rfl (lq_c rfl (lq_c rfl lq_n))))) ?_
            obtain rfl := Option.some.inj h
            exact ih3 _ _ _ (lpn_l hn2)
          · replace h := if_f c h
            refine w_sg k42 1 (pc' := 39) (ls' := [(0, aR 12 l0), (1, aI (nI 0)), (2, aI l2), (3, aI (l3 + (nI 1))), (4, aI l4)]) (st' := []) (cs' := []) (fun _ => rfl) al0 ?_
            refine w_sg k42 1 (pc' := 42) (ls' := [(0, aR 12 l0), (1, aI (nI 0)), (2, aI l2), (3, aI (l3 + (nI 1))), (4, aI (l4 + (nI 1)))]) (st' := []) (cs' := []) (fun _ => rfl) al0 ?_
            refine w_sg k42 1 (pc' := 5) (ls' := [(0, aR 12 l0), (1, aI (nI 0)), (2, aI l2), (3, aI (l3 + (nI 1))), (4, aI (l4 + (nI 1)))]) (st' := []) (cs' := []) (fun _ => rfl) al0 ?_
            refine w_ls [(0, aR 12 l0), (1, aI (nI 0)), (2, aI l2), (3, aI (l3 + (nI 1))), (4, aI (l4 + (nI 1)))] (lq_c rfl (lq_c rfl (lq_c rfl (lq_c rfl (lq_c rfl lq_n))))) ?_
            obtain rfl := Option.some.inj h
            exact ih3 _ _ _ (lpn_l hn2)
  refine w_sg k42 2 (pc' := 2) (ls' := [(0, aR 12 i0), (1, aI (nI 0)), (2, aI a2), (3, aI (nI 0))]) (st' := []) (cs' := []) (fun _ => rfl) al0 ?_
  refine w_sg k42 2 (pc' := 5) (ls' := [(0, aR 12 i0), (1, aI (nI 0)), (2, aI a2), (3, aI (nI 0)), (4, aI (nI 0))]) (st' := []) (cs' := []) (fun _ => rfl) al0 ?_
  refine w_ls [(0, aR 12 i0), (1, aI (nI 0)), (2, aI a2), (3, aI (nI 0)), (4, aI (nI 0))] (lq_c rfl (lq_c rfl (lq_c rfl (lq_c rfl (lq_c rfl lq_n))))) ?_
  exact L5_0 _ _ _ _ _ _ h
set_option maxRecDepth 20000 in
set_option maxHeartbeats 4000000 in
/-- BallotBus.asker -/
theorem sn_111 (a1 : Int32) (a2 : Int32) {Y : Sm} (v : (Int32 ⊕ Nat)) (Z : Sm) (h : fn_111 a1 a2 Y = some (v, Z)) : Mt 7 2 111 [aR 0 0, aI a1, aI a2] Y (Pz (fun v => some (aI v)) v Z) (Ez v Z) := by
  refine Mt_of [(0, aR 0 0), (1, aI a1), (2, aI a2)] ?_
  generalize ho : (v, Z) = o at h
  have hv9 : v = o.1 := congrArg Prod.fst ho
  have hZ9 : Z = o.2 := congrArg Prod.snd ho
  clear ho
  subst hv9 hZ9
  unfold fn_111 at h
  refine w_sg k111 2 (pc' := 2) (ls' := [(0, aR 0 0), (1, aI a1), (2, aI a2)]) (st' := [aI a1, aR 0 0]) (cs' := []) (fun _ => rfl) al0 ?_
  obtain ⟨o27, Y1, hv2, ⟨_, ho28, h⟩ | ⟨x26, ho28, h⟩⟩ := bx_some h
  · subst ho28
    refine w_cV0 k111 (sn_154 _ _ _ hv2) rfl (st := []) rfl ?_ (fun _ _ q => q.elim)
    refine w_sg k111 1 (pc' := 6) (ls' := [(0, aR 0 0), (1, aI a1), (2, aI a2)]) (st' := [aI a2]) (cs' := []) (fun _ => rfl) al0 ?_
    by_cases c3 : a2 = (nI 0)
    · replace h := if_t c3 h
      refine w_swAt k111 0 rfl rfl rfl rfl c3 ?_
      obtain ⟨hc13, h⟩ := ck_some h
      refine w_sg k111 6 (pc' := 72) (ls' := [(0, aR 0 0), (1, aI a1), (2, aI a2)]) (st' := [aI (gI Y1.1 29 0 (ix a1))]) (cs' := [vp_in a1 8]) (fun _ => rfl) (al1 (vin hc13)) ?_
      obtain rfl := Option.some.inj h
      exact w_ireturn k111 Pz_l
    replace h := if_f c3 h
    by_cases c4 : a2 = (nI 1)
    · replace h := if_t c4 h
      refine w_swAt k111 1 rfl rfl rfl rfl c4 ?_
      obtain ⟨hc14, h⟩ := ck_some h
      refine w_sg k111 6 (pc' := 85) (ls' := [(0, aR 0 0), (1, aI a1), (2, aI a2)]) (st' := [aI (gI Y1.1 30 0 (ix a1))]) (cs' := [vp_in a1 8]) (fun _ => rfl) (al1 (vin hc14)) ?_
      obtain rfl := Option.some.inj h
      exact w_ireturn k111 Pz_l
    replace h := if_f c4 h
    by_cases c5 : a2 = (nI 2)
    · replace h := if_t c5 h
      refine w_swAt k111 2 rfl rfl rfl rfl c5 ?_
      obtain ⟨hc15, h⟩ := ck_some h
      refine w_sg k111 5 (pc' := 95) (ls' := [(0, aR 0 0), (1, aI a1), (2, aI a2)]) (st' := [aI (gI Y1.1 10 (Y1.2 0) (ix a1))]) (cs' := [vp_in a1 8]) (fun _ => rfl) (al1 (vin hc15)) ?_
      obtain rfl := Option.some.inj h
      exact w_ireturn k111 Pz_l
    replace h := if_f c5 h
    by_cases c6 : a2 = (nI 3)
    · replace h := if_t c6 h
      refine w_swAt k111 3 rfl rfl rfl rfl c6 ?_
      obtain ⟨hc16, h⟩ := ck_some h
      refine w_sg k111 6 (pc' := 108) (ls' := [(0, aR 0 0), (1, aI a1), (2, aI a2)]) (st' := [aI (gI Y1.1 31 0 (ix a1))]) (cs' := [vp_in a1 8]) (fun _ => rfl) (al1 (vin hc16)) ?_
      obtain rfl := Option.some.inj h
      exact w_ireturn k111 Pz_l
    replace h := if_f c6 h
    by_cases c7 : a2 = (nI 4)
    · replace h := if_t c7 h
      refine w_swAt k111 4 rfl rfl rfl rfl c7 ?_
      refine w_sg k111 3 (pc' := 114) (ls' := [(0, aR 0 0), (1, aI a1), (2, aI a2)]) (st' := [aI a1, aR 21 0]) (cs' := []) (fun _ => rfl) al0 ?_
      obtain ⟨v19, Y17, hv18, h⟩ := bd_some h
      refine w_cV1 k111 (sn_73 _ _ _ _ hv18) rfl (st := []) rfl ?_ (fun _ _ q => q.elim)
      refine w_if_eq k111 rfl (fun c => ?_) (fun c => ?_)
      · replace h := if_t c h
        refine w_sg k111 1 (pc' := 125) (ls' := [(0, aR 0 0), (1, aI a1), (2, aI a2)]) (st' := [aI (nI 0)]) (cs' := []) (fun _ => rfl) al0 ?_
        obtain rfl := Option.some.inj h
        exact w_ireturn k111 Pz_l
      · replace h := if_f c h
        refine w_sg k111 2 (pc' := 125) (ls' := [(0, aR 0 0), (1, aI a1), (2, aI a2)]) (st' := [aI (nI 1)]) (cs' := []) (fun _ => rfl) al0 ?_
        obtain rfl := Option.some.inj h
        exact w_ireturn k111 Pz_l
    replace h := if_f c7 h
    by_cases c8 : a2 = (nI 5)
    · replace h := if_t c8 h
      refine w_swAt k111 5 rfl rfl rfl rfl c8 ?_
      refine w_sg k111 4 (pc' := 134) (ls' := [(0, aR 0 0), (1, aI a1), (2, aI a2)]) (st' := [aI a1, aI (gI Y1.1 21 0 3)]) (cs' := []) (fun _ => rfl) al0 ?_
      refine w_icmp_ne k111 rfl (fun c => ?_) (fun c => ?_)
      · replace h := if_f c h
        refine w_sg k111 1 (pc' := 152) (ls' := [(0, aR 0 0), (1, aI a1), (2, aI a2)]) (st' := [aI (nI 0)]) (cs' := []) (fun _ => rfl) al0 ?_
        obtain rfl := Option.some.inj h
        exact w_ireturn k111 Pz_l
      · replace h := if_t c h
        refine w_sg k111 3 (pc' := 144) (ls' := [(0, aR 0 0), (1, aI a1), (2, aI a2)]) (st' := [aI (gI Y1.1 21 0 4)]) (cs' := []) (fun _ => rfl) al0 ?_
        refine w_if_eq k111 rfl (fun c => ?_) (fun c => ?_)
        · replace h := if_t c h
          refine w_sg k111 1 (pc' := 152) (ls' := [(0, aR 0 0), (1, aI a1), (2, aI a2)]) (st' := [aI (nI 0)]) (cs' := []) (fun _ => rfl) al0 ?_
          obtain rfl := Option.some.inj h
          exact w_ireturn k111 Pz_l
        · replace h := if_f c h
          refine w_sg k111 2 (pc' := 152) (ls' := [(0, aR 0 0), (1, aI a1), (2, aI a2)]) (st' := [aI (nI 1)]) (cs' := []) (fun _ => rfl) al0 ?_
          obtain rfl := Option.some.inj h
          exact w_ireturn k111 Pz_l
    replace h := if_f c8 h
    by_cases c9 : a2 = (nI 6)
    · replace h := if_t c9 h
      refine w_swAt k111 6 rfl rfl rfl rfl c9 ?_
      refine w_sg k111 5 (pc' := 162) (ls' := [(0, aR 0 0), (1, aI a1), (2, aI a2)]) (st' := [aI a1, aI (nI 0), aR 12 3]) (cs' := []) (fun _ => rfl) al0 ?_
      obtain ⟨v22, Y20, hv21, h⟩ := bd_some h
      refine w_cV1 k111 (sn_42_12_c0 _ _ _ _ hv21) rfl (st := []) rfl ?_ (fun _ _ q => q.elim)
      obtain rfl := Option.some.inj h
      exact w_ireturn k111 Pz_l
    replace h := if_f c9 h
    by_cases c10 : a2 = (nI 7)
    · replace h := if_t c10 h
      refine w_swAt k111 7 rfl rfl rfl rfl c10 ?_
      obtain ⟨hc23, h⟩ := ck_some h
      refine w_sg k111 6 (pc' := 178) (ls' := [(0, aR 0 0), (1, aI a1), (2, aI a2)]) (st' := [aI (gI Y1.1 32 0 (ix a1))]) (cs' := [vp_in a1 8]) (fun _ => rfl) (al1 (vin hc23)) ?_
      obtain rfl := Option.some.inj h
      exact w_ireturn k111 Pz_l
    replace h := if_f c10 h
    by_cases c11 : a2 = (nI 8)
    · replace h := if_t c11 h
      refine w_swAt k111 8 rfl rfl rfl rfl c11 ?_
      obtain ⟨hc24, h⟩ := ck_some h
      refine w_sg k111 6 (pc' := 191) (ls' := [(0, aR 0 0), (1, aI a1), (2, aI a2)]) (st' := [aI (gI Y1.1 33 0 (ix a1))]) (cs' := [vp_in a1 8]) (fun _ => rfl) (al1 (vin hc24)) ?_
      obtain rfl := Option.some.inj h
      exact w_ireturn k111 Pz_l
    replace h := if_f c11 h
    by_cases c12 : a2 = (nI 9)
    · replace h := if_t c12 h
      refine w_swAt k111 9 rfl rfl rfl rfl c12 ?_
      obtain ⟨hc25, h⟩ := ck_some h
      refine w_sg k111 6 (pc' := 204) (ls' := [(0, aR 0 0), (1, aI a1), (2, aI a2)]) (st' := [aI (gI Y1.1 34 0 (ix a1))]) (cs' := [vp_in a1 8]) (fun _ => rfl) (al1 (vin hc25)) ?_
      obtain rfl := Option.some.inj h
      exact w_ireturn k111 Pz_l
    replace h := if_f c12 h
    refine w_swOut k111 rfl rfl rfl (nsw_s (nsw_s (nsw_s (nsw_s (nsw_s (nsw_s (nsw_s (nsw_s (nsw_s (nsw_s nsw_0 c3) c4) c5) c6) c7) c8) c9) c10) c11) c12) ?_
    obtain rfl := Option.some.inj h
    exact w_throw k111 rfl rfl Ez_r
  · subst ho28
    obtain rfl := Option.some.inj h
    exact w_xcallV k111 (sn_154 _ _ _ hv2) rfl (st := []) rfl Ez_r
set_option maxRecDepth 20000 in
set_option maxHeartbeats 4000000 in
/-- BallotBus.checkKind -/
theorem sn_155 (a1 : Int32) {Y : Sm} (v : (Unit ⊕ Nat)) (Z : Sm) (h : fn_155 a1 Y = some (v, Z)) : Mt 6 1 155 [aR 0 0, aI a1] Y (Pz (fun _ => none) v Z) (Ez v Z) := by
  refine Mt_of [(0, aR 0 0), (1, aI a1)] ?_
  generalize ho : (v, Z) = o at h
  have hv9 : v = o.1 := congrArg Prod.fst ho
  have hZ9 : Z = o.2 := congrArg Prod.snd ho
  clear ho
  subst hv9 hZ9
  unfold fn_155 at h
  refine w_sg k155 1 (pc' := 1) (ls' := [(0, aR 0 0), (1, aI a1)]) (st' := [aI a1]) (cs' := []) (fun _ => rfl) al0 ?_
  refine w_if_lt k155 rfl (fun c => ?_) (fun c => ?_)
  · replace h := if_t c h
    obtain rfl := Option.some.inj h
    exact w_throw k155 rfl rfl Ez_r
  · replace h := if_f c h
    refine w_sg k155 4 (pc' := 12) (ls' := [(0, aR 0 0), (1, aI a1)]) (st' := [aI (gI Y.1 5 (Y.2 0) 0), aI a1]) (cs' := []) (fun _ => rfl) al0 ?_
    refine w_icmp_lt k155 rfl (fun c => ?_) (fun c => ?_)
    · replace h := if_t c h
      obtain rfl := Option.some.inj h
      exact w_return k155 Pz_l
    · replace h := if_f c h
      obtain rfl := Option.some.inj h
      exact w_throw k155 rfl rfl Ez_r
set_option maxRecDepth 20000 in
set_option maxHeartbeats 4000000 in
/-- BallotBus$Requests.waitingWith -/
theorem sn_42_12_c1 (i0 : Nat) (a2 : Int32) {Y : Sm} (v : Int32) (Z : Sm) (h : fn_42_12_c1 i0 a2 Y = some (v, Z)) : Mt 5 0 42 [aR 12 i0, aI (nI 1), aI a2] Y (Rt (some (aI v)) Z) nX := by
  refine Mt_of [(0, aR 12 i0), (1, aI (nI 1)), (2, aI a2)] ?_
  generalize ho : (v, Z) = o at h
  have hv9 : v = o.1 := congrArg Prod.fst ho
  have hZ9 : Z = o.2 := congrArg Prod.snd ho
  clear ho
  subst hv9 hZ9
  unfold fn_42_12_c1 at h
  have L5_0 : ∀ (l0 : Nat) (l2 : Int32) (n : Nat) (l3 : Int32) (l4 : Int32) (Y : Sm), lp (fun s => fn_42_12_c1_L5 l0 l2 s.1 s.2.1 s.2.2) n (l3, l4, Y) = some o → Wm 5 0 42 0 5 [(0, aR 12 l0), (1, aI (nI 1)), (2, aI l2), (3, aI l3), (4, aI l4)] [] Y (Rt (some (aI o.1)) o.2) nX := by
    intro l0 l2 n
    induction n with
    | zero => intro l3 l4 Y h; cases h
    | succ n ih3 =>
      intro l3 l4 Y h
      obtain ⟨q1, h, hn2⟩ := lp_succ h
      replace h : fn_42_12_c1_L5 l0 l2 l3 l4 Y = some q1 := h
      unfold fn_42_12_c1_L5 at h
      refine w_sg k42 3 (pc' := 11) (ls' := [(0, aR 12 l0), (1, aI (nI 1)), (2, aI l2), (3, aI l3), (4, aI l4)]) (st' := [aI (gI Y.1 12 l0 1), aI l4]) (cs' := []) (fun _ => rfl) al0 ?_
      refine w_icmp_ge k42 rfl (fun c => ?_) (fun c => ?_)
      · replace h := if_t c h
        refine w_sg k42 1 (pc' := 46) (ls' := [(0, aR 12 l0), (1, aI (nI 1)), (2, aI l2), (3, aI l3), (4, aI l4)]) (st' := [aI l3]) (cs' := []) (fun _ => rfl) al0 ?_
        obtain rfl := Option.some.inj h
        obtain rfl := lpn_r hn2
        exact w_ireturn k42 ⟨rfl, rfl⟩
      · replace h := if_f c h
        refine w_sg k42 4 (pc' := 20) (ls' := [(0, aR 12 l0), (1, aI (nI 1)), (2, aI l2), (3, aI l3), (4, aI l4)]) (st' := [aR 15 l0]) (cs' := [vp_in (nI 1) 6]) (fun _ => rfl) (al1 (vin rfl)) ?_
        obtain ⟨hc4, h⟩ := ck_some h
        refine w_sg k42 3 (pc' := 24) (ls' := [(0, aR 12 l0), (1, aI (nI 1)), (2, aI l2), (3, aI l3), (4, aI l4)]) (st' := [aI l2, aI (gI Y.1 15 l0 (ix l4))]) (cs' := [vp_in l4 40]) (fun _ => rfl) (al1 (vin hc4)) ?_
        refine w_icmp_ne k42 rfl (fun c => ?_) (fun c => ?_)
        · replace h := if_f c h
          refine w_sg k42 1 (pc' := 42) (ls' := [(0, aR 12 l0), (1, aI (nI 1)), (2, aI l2), (3, aI l3), (4, aI (l4 + (nI 1)))]) (st' := []) (cs' := []) (fun _ => rfl) al0 ?_
          refine w_sg k42 1 (pc' := 5) (ls' := [(0, aR 12 l0), (1, aI (nI 1)), (2, aI l2), (3, aI l3), (4, aI (l4 + (nI 1)))]) (st' := []) (cs' := []) (fun _ => rfl) al0 ?_
          refine w_ls [(0, aR 12 l0), (1, aI (nI 1)), (2, aI l2), (3, aI l3), (4, aI (l4 + (nI 1)))] (lq_c rfl (lq_c rfl (lq_c rfl (lq_c rfl (lq_c rfl lq_n))))) ?_
          obtain rfl := Option.some.inj h
          exact ih3 _ _ _ (lpn_l hn2)
        · replace h := if_t c h
          refine w_sg k42 2 (pc' := 30) (ls' := [(0, aR 12 l0), (1, aI (nI 1)), (2, aI l2), (3, aI l3), (4, aI l4)]) (st' := [aI l4, aR 12 l0]) (cs' := []) (fun _ => rfl) al0 ?_
          obtain ⟨v7, Y5, hv6, h⟩ := bd_some h
          refine w_cV1 k42 (sn_40 _ _ _ _ hv6) rfl (st := []) rfl ?_ (fun _ _ q => q.elim)
          refine w_if_eq k42 rfl (fun c => ?_) (fun c => ?_)
          · replace h := if_t c h
            refine w_sg k42 1 (pc' := 42) (ls' := [(0, aR 12 l0), (1, aI (nI 1)), (2, aI l2), (3, aI l3), (4, aI (l4 + (nI 1)))]) (st' := []) (cs' := []) (fun _ => rfl) al0 ?_
            refine w_sg k42 1 (pc' := 5) (ls' := [(0, aR 12 l0), (1, aI (nI 1)), (2, aI l2), (3, aI l3), (4, aI (l4 + (nI 1)))]) (st' := []) (cs' := []) (fun _ => rfl) al0 ?_
            refine w_ls [(0, aR 12 l0), (1, aI (nI 1)), (2, aI l2), (3, aI l3), (4, aI (l4 + (nI 1)))] (lq_c rfl (lq_c rfl (lq_c rfl (lq_c rfl (lq_c rfl lq_n))))) ?_
            obtain rfl := Option.some.inj h
            exact ih3 _ _ _ (lpn_l hn2)
          · replace h := if_f c h
            refine w_sg k42 1 (pc' := 39) (ls' := [(0, aR 12 l0), (1, aI (nI 1)), (2, aI l2), (3, aI (l3 + (nI 1))), (4, aI l4)]) (st' := []) (cs' := []) (fun _ => rfl) al0 ?_
            refine w_sg k42 1 (pc' := 42) (ls' := [(0, aR 12 l0), (1, aI (nI 1)), (2, aI l2), (3, aI (l3 + (nI 1))), (4, aI (l4 + (nI 1)))]) (st' := []) (cs' := []) (fun _ => rfl) al0 ?_
            refine w_sg k42 1 (pc' := 5) (ls' := [(0, aR 12 l0), (1, aI (nI 1)), (2, aI l2), (3, aI (l3 + (nI 1))), (4, aI (l4 + (nI 1)))]) (st' := []) (cs' := []) (fun _ => rfl) al0 ?_
            refine w_ls [(0, aR 12 l0), (1, aI (nI 1)), (2, aI l2), (3, aI (l3 + (nI 1))), (4, aI (l4 + (nI 1)))] (lq_c rfl (lq_c rfl (lq_c rfl (lq_c rfl (lq_c rfl lq_n))))) ?_
            obtain rfl := Option.some.inj h
            exact ih3 _ _ _ (lpn_l hn2)
  refine w_sg k42 2 (pc' := 2) (ls' := [(0, aR 12 i0), (1, aI (nI 1)), (2, aI a2), (3, aI (nI 0))]) (st' := []) (cs' := []) (fun _ => rfl) al0 ?_
  refine w_sg k42 2 (pc' := 5) (ls' := [(0, aR 12 i0), (1, aI (nI 1)), (2, aI a2), (3, aI (nI 0)), (4, aI (nI 0))]) (st' := []) (cs' := []) (fun _ => rfl) al0 ?_
  refine w_ls [(0, aR 12 i0), (1, aI (nI 1)), (2, aI a2), (3, aI (nI 0)), (4, aI (nI 0))] (lq_c rfl (lq_c rfl (lq_c rfl (lq_c rfl (lq_c rfl lq_n))))) ?_
  exact L5_0 _ _ _ _ _ _ h
set_option maxRecDepth 20000 in
set_option maxHeartbeats 4000000 in
/-- BallotBus$Rows.placeOf -/
theorem sn_45_22 (i0 : Nat) (a1 : Int32) (a2 : Int32) {Y : Sm} (v : Int32) (Z : Sm) (h : fn_45_22 i0 a1 a2 Y = some (v, Z)) : Mt 4 0 45 [aR 22 i0, aI a1, aI a2] Y (Rt (some (aI v)) Z) nX := by
  refine Mt_of [(0, aR 22 i0), (1, aI a1), (2, aI a2)] ?_
  generalize ho : (v, Z) = o at h
  have hv9 : v = o.1 := congrArg Prod.fst ho
  have hZ9 : Z = o.2 := congrArg Prod.snd ho
  clear ho
  subst hv9 hZ9
  unfold fn_45_22 at h
  have L2_0 : ∀ (l0 : Nat) (l1 : Int32) (l2 : Int32) (n : Nat) (l3 : Int32) (Y : Sm), lp (fun s => fn_45_22_L2 l0 l1 l2 s.1 s.2) n (l3, Y) = some o → Wm 4 0 45 0 2 [(0, aR 22 l0), (1, aI l1), (2, aI l2), (3, aI l3)] [] Y (Rt (some (aI o.1)) o.2) nX := by
    intro l0 l1 l2 n
    induction n with
    | zero => intro l3 Y h; cases h
    | succ n ih3 =>
      intro l3 Y h
      obtain ⟨q1, h, hn2⟩ := lp_succ h
      replace h : fn_45_22_L2 l0 l1 l2 l3 Y = some q1 := h
      unfold fn_45_22_L2 at h
      refine w_sg k45 2 (pc' := 4) (ls' := [(0, aR 22 l0), (1, aI l1), (2, aI l2), (3, aI l3)]) (st' := [aI l1, aI l3]) (cs' := []) (fun _ => rfl) al0 ?_
      refine w_icmp_ge k45 rfl (fun c => ?_) (fun c => ?_)
      · replace h := if_t c h
        refine w_sg k45 1 (pc' := 29) (ls' := [(0, aR 22 l0), (1, aI l1), (2, aI l2), (3, aI l3)]) (st' := [aI (-1 : Int32)]) (cs' := []) (fun _ => rfl) al0 ?_
        obtain rfl := Option.some.inj h
        obtain rfl := lpn_r hn2
        exact w_ireturn k45 ⟨rfl, rfl⟩
      · replace h := if_f c h
        refine w_sg k45 3 (pc' := 10) (ls' := [(0, aR 22 l0), (1, aI l1), (2, aI l2), (3, aI l3)]) (st' := [aI (nI 5), aI l3]) (cs' := []) (fun _ => rfl) al0 ?_
        refine w_icmp_ge k45 rfl (fun c => ?_) (fun c => ?_)
        · replace h := if_t c h
          refine w_sg k45 1 (pc' := 29) (ls' := [(0, aR 22 l0), (1, aI l1), (2, aI l2), (3, aI l3)]) (st' := [aI (-1 : Int32)]) (cs' := []) (fun _ => rfl) al0 ?_
          obtain rfl := Option.some.inj h
          obtain rfl := lpn_r hn2
          exact w_ireturn k45 ⟨rfl, rfl⟩
        · replace h := if_f c h
          obtain ⟨hc4, h⟩ := ck_some h
          refine w_sg k45 4 (pc' := 17) (ls' := [(0, aR 22 l0), (1, aI l1), (2, aI l2), (3, aI l3)]) (st' := [aI l2, aI (gI Y.1 22 l0 (ix l3))]) (cs' := [vp_in l3 5]) (fun _ => rfl) (al1 (vin hc4)) ?_
          refine w_icmp_ne k45 rfl (fun c => ?_) (fun c => ?_)
          · replace h := if_f c h
            refine w_sg k45 1 (pc' := 25) (ls' := [(0, aR 22 l0), (1, aI l1), (2, aI l2), (3, aI (l3 + (nI 1)))]) (st' := []) (cs' := []) (fun _ => rfl) al0 ?_
            refine w_sg k45 1 (pc' := 2) (ls' := [(0, aR 22 l0), (1, aI l1), (2, aI l2), (3, aI (l3 + (nI 1)))]) (st' := []) (cs' := []) (fun _ => rfl) al0 ?_
            refine w_ls [(0, aR 22 l0), (1, aI l1), (2, aI l2), (3, aI (l3 + (nI 1)))] (lq_c rfl (lq_c rfl (lq_c rfl (lq_c rfl lq_n)))) ?_
            obtain rfl := Option.some.inj h
            exact ih3 _ _ (lpn_l hn2)
          · replace h := if_t c h
            refine w_sg k45 1 (pc' := 21) (ls' := [(0, aR 22 l0), (1, aI l1), (2, aI l2), (3, aI l3)]) (st' := [aI l3]) (cs' := []) (fun _ => rfl) al0 ?_
            obtain rfl := Option.some.inj h
            obtain rfl := lpn_r hn2
            exact w_ireturn k45 ⟨rfl, rfl⟩
  refine w_sg k45 2 (pc' := 2) (ls' := [(0, aR 22 i0), (1, aI a1), (2, aI a2), (3, aI (nI 0))]) (st' := []) (cs' := []) (fun _ => rfl) al0 ?_
  refine w_ls [(0, aR 22 i0), (1, aI a1), (2, aI a2), (3, aI (nI 0))] (lq_c rfl (lq_c rfl (lq_c rfl (lq_c rfl lq_n)))) ?_
  exact L2_0 _ _ _ _ _ _ h
set_option maxRecDepth 20000 in
set_option maxHeartbeats 4000000 in
/-- BallotBus$State.isVetoed -/
theorem sn_74 (i0 : Nat) (a1 : Int32) {Y : Sm} (v : Int32) (Z : Sm) (h : fn_74 i0 a1 Y = some (v, Z)) : Mt 4 0 74 [aR 21 i0, aI a1] Y (Rt (some (aI v)) Z) nX := by
  refine Mt_of [(0, aR 21 i0), (1, aI a1)] ?_
  generalize ho : (v, Z) = o at h
  have hv9 : v = o.1 := congrArg Prod.fst ho
  have hZ9 : Z = o.2 := congrArg Prod.snd ho
  clear ho
  subst hv9 hZ9
  unfold fn_74 at h
  refine w_sg k74 6 (pc' := 8) (ls' := [(0, aR 21 i0), (1, aI a1)]) (st' := [aI ((gI Y.1 21 i0 5) &&& ((nI 1) <<< (a1 &&& 31)))]) (cs' := []) (fun _ => rfl) al0 ?_
  refine w_if_eq k74 rfl (fun c => ?_) (fun c => ?_)
  · replace h := if_t c h
    refine w_sg k74 1 (pc' := 16) (ls' := [(0, aR 21 i0), (1, aI a1)]) (st' := [aI (nI 0)]) (cs' := []) (fun _ => rfl) al0 ?_
    obtain rfl := Option.some.inj h
    exact w_zreturn k74 (Or.inl rfl) ⟨rfl, rfl⟩
  · replace h := if_f c h
    refine w_sg k74 2 (pc' := 16) (ls' := [(0, aR 21 i0), (1, aI a1)]) (st' := [aI (nI 1)]) (cs' := []) (fun _ => rfl) al0 ?_
    obtain rfl := Option.some.inj h
    exact w_zreturn k74 (Or.inr rfl) ⟨rfl, rfl⟩
set_option maxRecDepth 20000 in
set_option maxHeartbeats 4000000 in
/-- BallotBus$State.isInLine -/
theorem sn_79 (i0 : Nat) (a1 : Int32) (a2 : Int32) {Y : Sm} (v : Int32) (Z : Sm) (h : fn_79 i0 a1 a2 Y = some (v, Z)) : Mt 5 0 79 [aR 21 i0, aI a1, aI a2] Y (Rt (some (aI v)) Z) nX := by
  refine Mt_of [(0, aR 21 i0), (1, aI a1), (2, aI a2)] ?_
  generalize ho : (v, Z) = o at h
  have hv9 : v = o.1 := congrArg Prod.fst ho
  have hZ9 : Z = o.2 := congrArg Prod.snd ho
  clear ho
  subst hv9 hZ9
  unfold fn_79 at h
  refine w_sg k79 5 (pc' := 9) (ls' := [(0, aR 21 i0), (1, aI a1), (2, aI a2)]) (st' := [aR 15 (i0 + 3)]) (cs' := [vp_in (nI 1) 6]) (fun _ => rfl) (al1 (vin rfl)) ?_
  obtain ⟨hc1, h⟩ := ck_some h
  refine w_sg k79 3 (pc' := 12) (ls' := [(0, aR 21 i0), (1, aI a1), (2, aI a2)]) (st' := [aI a2, aI (gI Y.1 15 (i0 + 3) (ix a1))]) (cs' := [vp_in a1 40]) (fun _ => rfl) (al1 (vin hc1)) ?_
  refine w_icmp_ne k79 rfl (fun c => ?_) (fun c => ?_)
  · replace h := if_f c h
    refine w_sg k79 1 (pc' := 31) (ls' := [(0, aR 21 i0), (1, aI a1), (2, aI a2)]) (st' := [aI (nI 0)]) (cs' := []) (fun _ => rfl) al0 ?_
    obtain rfl := Option.some.inj h
    exact w_zreturn k79 (Or.inl rfl) ⟨rfl, rfl⟩
  · replace h := if_t c h
    refine w_sg k79 3 (pc' := 20) (ls' := [(0, aR 21 i0), (1, aI a1), (2, aI a2)]) (st' := [aI a1, aR 12 (i0 + 3)]) (cs' := []) (fun _ => rfl) al0 ?_
    obtain ⟨v4, Y2, hv3, h⟩ := bd_some h
    refine w_cV1 k79 (sn_40 _ _ _ _ hv3) rfl (st := []) rfl ?_ (fun _ _ q => q.elim)
    refine w_if_eq k79 rfl (fun c => ?_) (fun c => ?_)
    · replace h := if_t c h
      refine w_sg k79 1 (pc' := 31) (ls' := [(0, aR 21 i0), (1, aI a1), (2, aI a2)]) (st' := [aI (nI 0)]) (cs' := []) (fun _ => rfl) al0 ?_
      obtain rfl := Option.some.inj h
      exact w_zreturn k79 (Or.inl rfl) ⟨rfl, rfl⟩
    · replace h := if_f c h
      refine w_sg k79 2 (pc' := 31) (ls' := [(0, aR 21 i0), (1, aI a1), (2, aI a2)]) (st' := [aI (nI 1)]) (cs' := []) (fun _ => rfl) al0 ?_
      obtain rfl := Option.some.inj h
      exact w_zreturn k79 (Or.inr rfl) ⟨rfl, rfl⟩
set_option maxRecDepth 20000 in
set_option maxHeartbeats 4000000 in
/-- BallotBus$State.rankInLine -/
theorem sn_80 (i0 : Nat) (a1 : Int32) {Y : Sm} (v : Int32) (Z : Sm) (h : fn_80 i0 a1 Y = some (v, Z)) : Mt 4 0 80 [aR 21 i0, aI a1] Y (Rt (some (aI v)) Z) nX := by
  refine Mt_of [(0, aR 21 i0), (1, aI a1)] ?_
  generalize ho : (v, Z) = o at h
  have hv9 : v = o.1 := congrArg Prod.fst ho
  have hZ9 : Z = o.2 := congrArg Prod.snd ho
  clear ho
  subst hv9 hZ9
  unfold fn_80 at h
  refine w_sg k80 5 (pc' := 9) (ls' := [(0, aR 21 i0), (1, aI a1)]) (st' := [aR 14 (i0 + 3)]) (cs' := [vp_in (nI 0) 6]) (fun _ => rfl) (al1 (vin rfl)) ?_
  obtain ⟨hc1, h⟩ := ck_some h
  refine w_sg k80 3 (pc' := 12) (ls' := [(0, aR 21 i0), (1, aI a1), (2, aI (gI Y.1 14 (i0 + 3) (ix a1)))]) (st' := []) (cs' := [vp_in a1 40]) (fun _ => rfl) (al1 (vin hc1)) ?_
  refine w_sg k80 7 (pc' := 25) (ls' := [(0, aR 21 i0), (1, aI a1), (2, aI (gI Y.1 14 (i0 + 3) (ix a1)))]) (st' := [aR 15 (i0 + 3), aR 23 i0]) (cs' := [vp_in (nI 1) 6]) (fun _ => rfl) (al1 (vin rfl)) ?_
  obtain ⟨hc2, h⟩ := ck_some h
  refine w_sg k80 3 (pc' := 28) (ls' := [(0, aR 21 i0), (1, aI a1), (2, aI (gI Y.1 14 (i0 + 3) (ix a1)))]) (st' := [aI (gI Y.1 23 i0 (ix (gI Y.1 15 (i0 + 3) (ix a1))))]) (cs' := [vp_in a1 40, vp_in (gI Y.1 15 (i0 + 3) (ix a1)) 5]) (fun _ => rfl) (al2 (vin hc1) (al1 (vin hc2))) ?_
  by_cases c3 : (gI Y.1 23 i0 (ix (gI Y.1 15 (i0 + 3) (ix a1)))) = (nI 1)
  · replace h := if_t c3 h
    refine w_swAt k80 0 rfl rfl rfl rfl c3 ?_
    refine w_sg k80 5 (pc' := 65) (ls' := [(0, aR 21 i0), (1, aI a1), (2, aI (gI Y.1 14 (i0 + 3) (ix a1)))]) (st' := [aR 16 (i0 + 3)]) (cs' := [vp_in (nI 2) 6]) (fun _ => rfl) (al1 (vin rfl)) ?_
    refine w_sg k80 2 (pc' := 67) (ls' := [(0, aR 21 i0), (1, aI a1), (2, aI (gI Y.1 14 (i0 + 3) (ix a1)))]) (st' := [aI (gI Y.1 16 (i0 + 3) (ix a1))]) (cs' := [vp_in a1 40]) (fun _ => rfl) (al1 (vin hc1)) ?_
    obtain rfl := Option.some.inj h
    exact w_ireturn k80 ⟨rfl, rfl⟩
  replace h := if_f c3 h
  by_cases c4 : (gI Y.1 23 i0 (ix (gI Y.1 15 (i0 + 3) (ix a1)))) = (nI 2)
  · replace h := if_t c4 h
    refine w_swAt k80 1 rfl rfl rfl rfl c4 ?_
    obtain ⟨hc6, h⟩ := ck_some h
    refine w_sg k80 6 (pc' := 78) (ls' := [(0, aR 21 i0), (1, aI a1), (2, aI (gI Y.1 14 (i0 + 3) (ix a1)))]) (st' := [aI (-(gI Y.1 29 i0 (ix (gI Y.1 14 (i0 + 3) (ix a1)))))]) (cs' := [vp_in (gI Y.1 14 (i0 + 3) (ix a1)) 8]) (fun _ => rfl) (al1 (vin hc6)) ?_
    obtain rfl := Option.some.inj h
    exact w_ireturn k80 ⟨rfl, rfl⟩
  replace h := if_f c4 h
  by_cases c5 : (gI Y.1 23 i0 (ix (gI Y.1 15 (i0 + 3) (ix a1)))) = (nI 3)
  · replace h := if_t c5 h
    refine w_swAt k80 2 rfl rfl rfl rfl c5 ?_
    obtain ⟨hc7, h⟩ := ck_some h
    refine w_sg k80 6 (pc' := 89) (ls' := [(0, aR 21 i0), (1, aI a1), (2, aI (gI Y.1 14 (i0 + 3) (ix a1)))]) (st' := [aI (-(gI Y.1 30 i0 (ix (gI Y.1 14 (i0 + 3) (ix a1)))))]) (cs' := [vp_in (gI Y.1 14 (i0 + 3) (ix a1)) 8]) (fun _ => rfl) (al1 (vin hc7)) ?_
    obtain rfl := Option.some.inj h
    exact w_ireturn k80 ⟨rfl, rfl⟩
  replace h := if_f c5 h
  refine w_swOut k80 rfl rfl rfl (nsw_s (nsw_s (nsw_s nsw_0 c3) c4) c5) ?_
  refine w_sg k80 1 (pc' := 91) (ls' := [(0, aR 21 i0), (1, aI a1), (2, aI (gI Y.1 14 (i0 + 3) (ix a1)))]) (st' := [aI (nI 0)]) (cs' := []) (fun _ => rfl) al0 ?_
  obtain rfl := Option.some.inj h
  exact w_ireturn k80 ⟨rfl, rfl⟩
set_option maxRecDepth 20000 in
set_option maxHeartbeats 4000000 in
/-- BallotBus$State.firstOf -/
theorem sn_76 (i0 : Nat) (a1 : Int32) {Y : Sm} (v : Int32) (Z : Sm) (h : fn_76 i0 a1 Y = some (v, Z)) : Mt 6 0 76 [aR 21 i0, aI a1] Y (Rt (some (aI v)) Z) nX := by
  refine Mt_of [(0, aR 21 i0), (1, aI a1)] ?_
  generalize ho : (v, Z) = o at h
  have hv9 : v = o.1 := congrArg Prod.fst ho
  have hZ9 : Z = o.2 := congrArg Prod.snd ho
  clear ho
  subst hv9 hZ9
  unfold fn_76 at h
  have L4_0 : ∀ (l0 : Nat) (l1 : Int32) (n : Nat) (l2 : Int32) (l3 : Int32) (Y : Sm), lp (fun s => fn_76_L4 l0 l1 s.1 s.2.1 s.2.2) n (l2, l3, Y) = some o → Wm 6 0 76 0 4 [(0, aR 21 l0), (1, aI l1), (2, aI l2), (3, aI l3)] [] Y (Rt (some (aI o.1)) o.2) nX := by
    intro l0 l1 n
    induction n with
    | zero => intro l2 l3 Y h; cases h
    | succ n ih3 =>
      intro l2 l3 Y h
      obtain ⟨q1, h, hn2⟩ := lp_succ h
      replace h : fn_76_L4 l0 l1 l2 l3 Y = some q1 := h
      unfold fn_76_L4 at h
      refine w_sg k76 4 (pc' := 12) (ls' := [(0, aR 21 l0), (1, aI l1), (2, aI l2), (3, aI l3)]) (st' := [aI (gI Y.1 12 (l0 + 3) 1), aI l3]) (cs' := []) (fun _ => rfl) al0 ?_
      refine w_icmp_ge k76 rfl (fun c => ?_) (fun c => ?_)
      · replace h := if_t c h
        refine w_sg k76 1 (pc' := 51) (ls' := [(0, aR 21 l0), (1, aI l1), (2, aI l2), (3, aI l3)]) (st' := [aI l2]) (cs' := []) (fun _ => rfl) al0 ?_
        obtain rfl := Option.some.inj h
        obtain rfl := lpn_r hn2
        exact w_ireturn k76 ⟨rfl, rfl⟩
      · replace h := if_f c h
        refine w_sg k76 3 (pc' := 18) (ls' := [(0, aR 21 l0), (1, aI l1), (2, aI l2), (3, aI l3)]) (st' := [aI l1, aI l3, aR 21 l0]) (cs' := []) (fun _ => rfl) al0 ?_
        obtain ⟨v6, Y4, hv5, h⟩ := bd_some h
        refine w_cV1 k76 (sn_79 _ _ _ _ _ hv5) rfl (st := []) rfl ?_ (fun _ _ q => q.elim)
        refine w_if_eq k76 rfl (fun c => ?_) (fun c => ?_)
        · replace h := if_t c h
          refine w_sg k76 1 (pc' := 47) (ls' := [(0, aR 21 l0), (1, aI l1), (2, aI l2), (3, aI (l3 + (nI 1)))]) (st' := []) (cs' := []) (fun _ => rfl) al0 ?_
          refine w_sg k76 1 (pc' := 4) (ls' := [(0, aR 21 l0), (1, aI l1), (2, aI l2), (3, aI (l3 + (nI 1)))]) (st' := []) (cs' := []) (fun _ => rfl) al0 ?_
          refine w_ls [(0, aR 21 l0), (1, aI l1), (2, aI l2), (3, aI (l3 + (nI 1)))] (lq_c rfl (lq_c rfl (lq_c rfl (lq_c rfl lq_n)))) ?_
          obtain rfl := Option.some.inj h
          exact ih3 _ _ _ (lpn_l hn2)
        · replace h := if_f c h
          refine w_sg k76 2 (pc' := 26) (ls' := [(0, aR 21 l0), (1, aI l1), (2, aI l2), (3, aI l3)]) (st' := [aI (-1 : Int32), aI l2]) (cs' := []) (fun _ => rfl) al0 ?_
          refine w_icmp_eq k76 rfl (fun c => ?_) (fun c => ?_)
          · replace h := if_t c h
            refine w_sg k76 2 (pc' := 44) (ls' := [(0, aR 21 l0), (1, aI l1), (2, aI l3), (3, aI l3)]) (st' := []) (cs' := []) (fun _ => rfl) al0 ?_
            refine w_sg k76 1 (pc' := 47) (ls' := [(0, aR 21 l0), (1, aI l1), (2, aI l3), (3, aI (l3 + (nI 1)))]) (st' := []) (cs' := []) (fun _ => rfl) al0 ?_
            refine w_sg k76 1 (pc' := 4) (ls' := [(0, aR 21 l0), (1, aI l1), (2, aI l3), (3, aI (l3 + (nI 1)))]) (st' := []) (cs' := []) (fun _ => rfl) al0 ?_
            refine w_ls [(0, aR 21 l0), (1, aI l1), (2, aI l3), (3, aI (l3 + (nI 1)))] (lq_c rfl (lq_c rfl (lq_c rfl (lq_c rfl lq_n)))) ?_
            obtain rfl := Option.some.inj h
            exact ih3 _ _ _ (lpn_l hn2)
          · replace h := if_f c h
            refine w_sg k76 2 (pc' := 31) (ls' := [(0, aR 21 l0), (1, aI l1), (2, aI l2), (3, aI l3)]) (st' := [aI l3, aR 21 l0]) (cs' := []) (fun _ => rfl) al0 ?_
            obtain ⟨v9, Y7, hv8, h⟩ := bd_some h
            refine w_cV1 k76 (sn_80 _ _ _ _ hv8) rfl (st := []) rfl ?_ (fun _ _ q => q.elim)
            refine w_sg k76 2 (pc' := 36) (ls' := [(0, aR 21 l0), (1, aI l1), (2, aI l2), (3, aI l3)]) (st' := [aI l2, aR 21 l0, aI v9]) (cs' := []) (fun _ => rfl) al0 ?_
            obtain ⟨v12, Y10, hv11, h⟩ := bd_some h
            refine w_cV1 k76 (sn_80 _ _ _ _ hv11) rfl (st := [aI v9]) rfl ?_ (fun _ _ q => q.elim)
            refine w_icmp_ge k76 rfl (fun c => ?_) (fun c => ?_)
            · replace h := if_t c h
              refine w_sg k76 1 (pc' := 47) (ls' := [(0, aR 21 l0), (1, aI l1), (2, aI l2), (3, aI (l3 + (nI 1)))]) (st' := []) (cs' := []) (fun _ => rfl) al0 ?_
              refine w_sg k76 1 (pc' := 4) (ls' := [(0, aR 21 l0), (1, aI l1), (2, aI l2), (3, aI (l3 + (nI 1)))]) (st' := []) (cs' := []) (fun _ => rfl) al0 ?_
              refine w_ls [(0, aR 21 l0), (1, aI l1), (2, aI l2), (3, aI (l3 + (nI 1)))] (lq_c rfl (lq_c rfl (lq_c rfl (lq_c rfl lq_n)))) ?_
              obtain rfl := Option.some.inj h
              exact ih3 _ _ _ (lpn_l hn2)
            · replace h := if_f c h
              refine w_sg k76 2 (pc' := 44) (ls' := [(0, aR 21 l0), (1, aI l1), (2, aI l3), (3, aI l3)]) (st' := []) (cs' := []) (fun _ => rfl) al0 ?_
              refine w_sg k76 1 (pc' := 47) (ls' := [(0, aR 21 l0), (1, aI l1), (2, aI l3), (3, aI (l3 + (nI 1)))]) (st' := []) (cs' := []) (fun _ => rfl) al0 ?_
              refine w_sg k76 1 (pc' := 4) (ls' := [(0, aR 21 l0), (1, aI l1), (2, aI l3), (3, aI (l3 + (nI 1)))]) (st' := []) (cs' := []) (fun _ => rfl) al0 ?_
              refine w_ls [(0, aR 21 l0), (1, aI l1), (2, aI l3), (3, aI (l3 + (nI 1)))] (lq_c rfl (lq_c rfl (lq_c rfl (lq_c rfl lq_n)))) ?_
              obtain rfl := Option.some.inj h
              exact ih3 _ _ _ (lpn_l hn2)
  refine w_sg k76 2 (pc' := 2) (ls' := [(0, aR 21 i0), (1, aI a1), (2, aI (-1 : Int32))]) (st' := []) (cs' := []) (fun _ => rfl) al0 ?_
  refine w_sg k76 2 (pc' := 4) (ls' := [(0, aR 21 i0), (1, aI a1), (2, aI (-1 : Int32)), (3, aI (nI 0))]) (st' := []) (cs' := []) (fun _ => rfl) al0 ?_
  refine w_ls [(0, aR 21 i0), (1, aI a1), (2, aI (-1 : Int32)), (3, aI (nI 0))] (lq_c rfl (lq_c rfl (lq_c rfl (lq_c rfl lq_n)))) ?_
  exact L4_0 _ _ _ _ _ _ h
set_option maxRecDepth 20000 in
set_option maxHeartbeats 4000000 in
/-- BallotBus$Requests.serialAt -/
theorem sn_39 (i0 : Nat) (a1 : Int32) {Y : Sm} (v : Int32) (Z : Sm) (h : fn_39 i0 a1 Y = some (v, Z)) : Mt 4 0 39 [aR 12 i0, aI a1] Y (Rt (some (aI v)) Z) nX := by
  refine Mt_of [(0, aR 12 i0), (1, aI a1)] ?_
  generalize ho : (v, Z) = o at h
  have hv9 : v = o.1 := congrArg Prod.fst ho
  have hZ9 : Z = o.2 := congrArg Prod.snd ho
  clear ho
  subst hv9 hZ9
  unfold fn_39 at h
  refine w_sg k39 1 (pc' := 1) (ls' := [(0, aR 12 i0), (1, aI a1)]) (st' := [aI a1]) (cs' := []) (fun _ => rfl) al0 ?_
  refine w_if_lt k39 rfl (fun c => ?_) (fun c => ?_)
  · replace h := if_t c h
    refine w_sg k39 2 (pc' := 24) (ls' := [(0, aR 12 i0), (1, aI a1)]) (st' := [aI (-1 : Int32)]) (cs' := []) (fun _ => rfl) al0 ?_
    obtain rfl := Option.some.inj h
    exact w_ireturn k39 ⟨rfl, rfl⟩
  · replace h := if_f c h
    refine w_sg k39 3 (pc' := 9) (ls' := [(0, aR 12 i0), (1, aI a1)]) (st' := [aI (gI Y.1 12 i0 1), aI a1]) (cs' := []) (fun _ => rfl) al0 ?_
    refine w_icmp_lt k39 rfl (fun c => ?_) (fun c => ?_)
    · replace h := if_t c h
      refine w_sg k39 4 (pc' := 22) (ls' := [(0, aR 12 i0), (1, aI a1)]) (st' := [aR 19 i0]) (cs' := [vp_in (nI 5) 6]) (fun _ => rfl) (al1 (vin rfl)) ?_
      obtain ⟨hc1, h⟩ := ck_some h
      refine w_sg k39 2 (pc' := 24) (ls' := [(0, aR 12 i0), (1, aI a1)]) (st' := [aI (gI Y.1 19 i0 (ix a1))]) (cs' := [vp_in a1 40]) (fun _ => rfl) (al1 (vin hc1)) ?_
      obtain rfl := Option.some.inj h
      exact w_ireturn k39 ⟨rfl, rfl⟩
    · replace h := if_f c h
      refine w_sg k39 2 (pc' := 24) (ls' := [(0, aR 12 i0), (1, aI a1)]) (st' := [aI (-1 : Int32)]) (cs' := []) (fun _ => rfl) al0 ?_
      obtain rfl := Option.some.inj h
      exact w_ireturn k39 ⟨rfl, rfl⟩
set_option maxRecDepth 20000 in
set_option maxHeartbeats 4000000 in
/-- BallotBus.kind -/
theorem sn_112 (a1 : Int32) (a2 : Int32) {Y : Sm} (v : (Int32 ⊕ Nat)) (Z : Sm) (h : fn_112 a1 a2 Y = some (v, Z)) : Mt 7 2 112 [aR 0 0, aI a1, aI a2] Y (Pz (fun v => some (aI v)) v Z) (Ez v Z) := by
  refine Mt_of [(0, aR 0 0), (1, aI a1), (2, aI a2)] ?_
  generalize ho : (v, Z) = o at h
  have hv9 : v = o.1 := congrArg Prod.fst ho
  have hZ9 : Z = o.2 := congrArg Prod.snd ho
  clear ho
  subst hv9 hZ9
  unfold fn_112 at h
  refine w_sg k112 2 (pc' := 2) (ls' := [(0, aR 0 0), (1, aI a1), (2, aI a2)]) (st' := [aI a1, aR 0 0]) (cs' := []) (fun _ => rfl) al0 ?_
  obtain ⟨o27, Y1, hv2, ⟨_, ho28, h⟩ | ⟨x26, ho28, h⟩⟩ := bx_some h
  · subst ho28
    refine w_cV0 k112 (sn_155 _ _ _ hv2) rfl (st := []) rfl ?_ (fun _ _ q => q.elim)
    refine w_sg k112 1 (pc' := 6) (ls' := [(0, aR 0 0), (1, aI a1), (2, aI a2)]) (st' := [aI a2]) (cs' := []) (fun _ => rfl) al0 ?_
    by_cases c3 : a2 = (nI 0)
    · replace h := if_t c3 h
      refine w_swAt k112 0 rfl rfl rfl rfl c3 ?_
      obtain ⟨hc9, h⟩ := ck_some h
      refine w_sg k112 5 (pc' := 53) (ls' := [(0, aR 0 0), (1, aI a1), (2, aI a2)]) (st' := [aI (gI Y1.1 23 0 (ix a1))]) (cs' := [vp_in a1 5]) (fun _ => rfl) (al1 (vin hc9)) ?_
      obtain rfl := Option.some.inj h
      exact w_ireturn k112 Pz_l
    replace h := if_f c3 h
    by_cases c4 : a2 = (nI 1)
    · replace h := if_t c4 h
      refine w_swAt k112 1 rfl rfl rfl rfl c4 ?_
      refine w_sg k112 5 (pc' := 63) (ls' := [(0, aR 0 0), (1, aI a1), (2, aI a2)]) (st' := [aI a1, aI (nI 1), aR 12 3]) (cs' := []) (fun _ => rfl) al0 ?_
      obtain ⟨v12, Y10, hv11, h⟩ := bd_some h
      refine w_cV1 k112 (sn_42_12_c1 _ _ _ _ hv11) rfl (st := []) rfl ?_ (fun _ _ q => q.elim)
      obtain rfl := Option.some.inj h
      exact w_ireturn k112 Pz_l
    replace h := if_f c4 h
    by_cases c5 : a2 = (nI 2)
    · replace h := if_t c5 h
      refine w_swAt k112 2 rfl rfl rfl rfl c5 ?_
      obtain ⟨hc13, h⟩ := ck_some h
      refine w_sg k112 5 (pc' := 76) (ls' := [(0, aR 0 0), (1, aI a1), (2, aI a2)]) (st' := [aI (gI Y1.1 24 0 (ix a1))]) (cs' := [vp_in a1 5]) (fun _ => rfl) (al1 (vin hc13)) ?_
      obtain rfl := Option.some.inj h
      exact w_ireturn k112 Pz_l
    replace h := if_f c5 h
    by_cases c6 : a2 = (nI 3)
    · replace h := if_t c6 h
      refine w_swAt k112 3 rfl rfl rfl rfl c6 ?_
      refine w_sg k112 7 (pc' := 92) (ls' := [(0, aR 0 0), (1, aI a1), (2, aI a2)]) (st' := [aI a1, aI (gI Y1.1 5 (Y1.2 0) 0), aR 22 0]) (cs' := []) (fun _ => rfl) al0 ?_
      obtain ⟨v16, Y14, hv15, h⟩ := bd_some h
      refine w_cS1 k112 (sn_45_22 _ _ _ _ _ hv15) rfl (st := []) rfl ?_ (fun _ _ q => q.elim)
      obtain rfl := Option.some.inj h
      exact w_ireturn k112 Pz_l
    replace h := if_f c6 h
    by_cases c7 : a2 = (nI 4)
    · replace h := if_t c7 h
      refine w_swAt k112 4 rfl rfl rfl rfl c7 ?_
      refine w_sg k112 3 (pc' := 101) (ls' := [(0, aR 0 0), (1, aI a1), (2, aI a2)]) (st' := [aI a1, aR 21 0]) (cs' := []) (fun _ => rfl) al0 ?_
      obtain ⟨v19, Y17, hv18, h⟩ := bd_some h
      refine w_cV1 k112 (sn_74 _ _ _ _ hv18) rfl (st := []) rfl ?_ (fun _ _ q => q.elim)
      refine w_if_eq k112 rfl (fun c => ?_) (fun c => ?_)
      · replace h := if_t c h
        refine w_sg k112 1 (pc' := 112) (ls' := [(0, aR 0 0), (1, aI a1), (2, aI a2)]) (st' := [aI (nI 0)]) (cs' := []) (fun _ => rfl) al0 ?_
        obtain rfl := Option.some.inj h
        exact w_ireturn k112 Pz_l
      · replace h := if_f c h
        refine w_sg k112 2 (pc' := 112) (ls' := [(0, aR 0 0), (1, aI a1), (2, aI a2)]) (st' := [aI (nI 1)]) (cs' := []) (fun _ => rfl) al0 ?_
        obtain rfl := Option.some.inj h
        exact w_ireturn k112 Pz_l
    replace h := if_f c7 h
    by_cases c8 : a2 = (nI 5)
    · replace h := if_t c8 h
      refine w_swAt k112 5 rfl rfl rfl rfl c8 ?_
      refine w_sg k112 6 (pc' := 125) (ls' := [(0, aR 0 0), (1, aI a1), (2, aI a2)]) (st' := [aI a1, aR 21 0, aR 12 3]) (cs' := []) (fun _ => rfl) al0 ?_
      obtain ⟨v22, Y20, hv21, h⟩ := bd_some h
      refine w_cV1 k112 (sn_76 _ _ _ _ hv21) rfl (st := [aR 12 3]) rfl ?_ (fun _ _ q => q.elim)
      obtain ⟨v25, Y23, hv24, h⟩ := bd_some h
      refine w_cV1 k112 (sn_39 _ _ _ _ hv24) rfl (st := []) rfl ?_ (fun _ _ q => q.elim)
      obtain rfl := Option.some.inj h
      exact w_ireturn k112 Pz_l
    replace h := if_f c8 h
    refine w_swOut k112 rfl rfl rfl (nsw_s (nsw_s (nsw_s (nsw_s (nsw_s (nsw_s nsw_0 c3) c4) c5) c6) c7) c8) ?_
    obtain rfl := Option.some.inj h
    exact w_throw k112 rfl rfl Ez_r
  · subst ho28
    obtain rfl := Option.some.inj h
    exact w_xcallV k112 (sn_155 _ _ _ hv2) rfl (st := []) rfl Ez_r
set_option maxRecDepth 20000 in
set_option maxHeartbeats 4000000 in
/-- BallotBus.ballot -/
theorem sn_113 (a1 : Int32) (a2 : Int32) {Y : Sm} (v : (Int32 ⊕ Nat)) (Z : Sm) (h : fn_113 a1 a2 Y = some (v, Z)) : Mt 7 2 113 [aR 0 0, aI a1, aI a2] Y (Pz (fun v => some (aI v)) v Z) (Ez v Z) := by
  refine Mt_of [(0, aR 0 0), (1, aI a1), (2, aI a2)] ?_
  generalize ho : (v, Z) = o at h
  have hv9 : v = o.1 := congrArg Prod.fst ho
  have hZ9 : Z = o.2 := congrArg Prod.snd ho
  clear ho
  subst hv9 hZ9
  unfold fn_113 at h
  refine w_sg k113 2 (pc' := 2) (ls' := [(0, aR 0 0), (1, aI a1), (2, aI a2)]) (st' := [aI a1, aR 0 0]) (cs' := []) (fun _ => rfl) al0 ?_
  obtain ⟨o11, Y1, hv2, ⟨_, ho12, h⟩ | ⟨x10, ho12, h⟩⟩ := bx_some h
  · subst ho12
    refine w_cV0 k113 (sn_154 _ _ _ hv2) rfl (st := []) rfl ?_ (fun _ _ q => q.elim)
    refine w_sg k113 2 (pc' := 7) (ls' := [(0, aR 0 0), (1, aI a1), (2, aI a2)]) (st' := [aI a2, aR 0 0]) (cs' := []) (fun _ => rfl) al0 ?_
    obtain ⟨o8, Y3, hv4, ⟨_, ho9, h⟩ | ⟨x7, ho9, h⟩⟩ := bx_some h
    · subst ho9
      refine w_cV0 k113 (sn_155 _ _ _ hv4) rfl (st := []) rfl ?_ (fun _ _ q => q.elim)
      obtain ⟨hc5, h⟩ := ck_some h
      refine w_sg k113 5 (pc' := 19) (ls' := [(0, aR 0 0), (1, aI a1), (2, aI a2)]) (st' := [aR 27 (8 * 0 + ix a1)]) (cs' := [vp_in a1 8]) (fun _ => rfl) (al1 (vin hc5)) ?_
      obtain ⟨hc6, h⟩ := ck_some h
      refine w_sg k113 2 (pc' := 21) (ls' := [(0, aR 0 0), (1, aI a1), (2, aI a2)]) (st' := [aI (gI Y3.1 27 (8 * 0 + ix a1) (ix a2))]) (cs' := [vp_in a2 5]) (fun _ => rfl) (al1 (vin hc6)) ?_
      obtain rfl := Option.some.inj h
      exact w_ireturn k113 Pz_l
    · subst ho9
      obtain rfl := Option.some.inj h
      exact w_xcallV k113 (sn_155 _ _ _ hv4) rfl (st := []) rfl Ez_r
  · subst ho12
    obtain rfl := Option.some.inj h
    exact w_xcallV k113 (sn_154 _ _ _ hv2) rfl (st := []) rfl Ez_r
set_option maxRecDepth 20000 in
set_option maxHeartbeats 4000000 in
/-- BallotBus.order -/
theorem sn_114 (a1 : Int32) {Y : Sm} (v : (Int32 ⊕ Nat)) (Z : Sm) (h : fn_114 a1 Y = some (v, Z)) : Mt 7 1 114 [aR 0 0, aI a1] Y (Pz (fun v => some (aI v)) v Z) (Ez v Z) := by
  refine Mt_of [(0, aR 0 0), (1, aI a1)] ?_
  generalize ho : (v, Z) = o at h
  have hv9 : v = o.1 := congrArg Prod.fst ho
  have hZ9 : Z = o.2 := congrArg Prod.snd ho
  clear ho
  subst hv9 hZ9
  unfold fn_114 at h
  refine w_sg k114 2 (pc' := 2) (ls' := [(0, aR 0 0), (1, aI a1)]) (st' := [aI a1, aR 0 0]) (cs' := []) (fun _ => rfl) al0 ?_
  obtain ⟨o5, Y1, hv2, ⟨_, ho6, h⟩ | ⟨x4, ho6, h⟩⟩ := bx_some h
  · subst ho6
    refine w_cV0 k114 (sn_155 _ _ _ hv2) rfl (st := []) rfl ?_ (fun _ _ q => q.elim)
    obtain ⟨hc3, h⟩ := ck_some h
    refine w_sg k114 5 (pc' := 14) (ls' := [(0, aR 0 0), (1, aI a1)]) (st' := [aI (gI Y1.1 22 0 (ix a1))]) (cs' := [vp_in a1 5]) (fun _ => rfl) (al1 (vin hc3)) ?_
    obtain rfl := Option.some.inj h
    exact w_ireturn k114 Pz_l
  · subst ho6
    obtain rfl := Option.some.inj h
    exact w_xcallV k114 (sn_155 _ _ _ hv2) rfl (st := []) rfl Ez_r
set_option maxRecDepth 20000 in
set_option maxHeartbeats 4000000 in
/-- BallotBus$Requests.indexOf -/
theorem sn_38 (i0 : Nat) (a1 : Int32) {Y : Sm} (v : Int32) (Z : Sm) (h : fn_38 i0 a1 Y = some (v, Z)) : Mt 4 0 38 [aR 12 i0, aI a1] Y (Rt (some (aI v)) Z) nX := by
  refine Mt_of [(0, aR 12 i0), (1, aI a1)] ?_
  generalize ho : (v, Z) = o at h
  have hv9 : v = o.1 := congrArg Prod.fst ho
  have hZ9 : Z = o.2 := congrArg Prod.snd ho
  clear ho
  subst hv9 hZ9
  unfold fn_38 at h
  have L2_0 : ∀ (l0 : Nat) (l1 : Int32) (n : Nat) (l2 : Int32) (Y : Sm), lp (fun s => fn_38_L2 l0 l1 s.1 s.2) n (l2, Y) = some o → Wm 4 0 38 0 2 [(0, aR 12 l0), (1, aI l1), (2, aI l2)] [] Y (Rt (some (aI o.1)) o.2) nX := by
    intro l0 l1 n
    induction n with
    | zero => intro l2 Y h; cases h
    | succ n ih3 =>
      intro l2 Y h
      obtain ⟨q1, h, hn2⟩ := lp_succ h
      replace h : fn_38_L2 l0 l1 l2 Y = some q1 := h
      unfold fn_38_L2 at h
      refine w_sg k38 3 (pc' := 7) (ls' := [(0, aR 12 l0), (1, aI l1), (2, aI l2)]) (st' := [aI (gI Y.1 12 l0 1), aI l2]) (cs' := []) (fun _ => rfl) al0 ?_
      refine w_icmp_ge k38 rfl (fun c => ?_) (fun c => ?_)
      · replace h := if_t c h
        refine w_sg k38 1 (pc' := 31) (ls' := [(0, aR 12 l0), (1, aI l1), (2, aI l2)]) (st' := [aI (-1 : Int32)]) (cs' := []) (fun _ => rfl) al0 ?_
        obtain rfl := Option.some.inj h
        obtain rfl := lpn_r hn2
        exact w_ireturn k38 ⟨rfl, rfl⟩
      · replace h := if_f c h
        refine w_sg k38 4 (pc' := 16) (ls' := [(0, aR 12 l0), (1, aI l1), (2, aI l2)]) (st' := [aR 19 l0]) (cs' := [vp_in (nI 5) 6]) (fun _ => rfl) (al1 (vin rfl)) ?_
        obtain ⟨hc4, h⟩ := ck_some h
        refine w_sg k38 3 (pc' := 19) (ls' := [(0, aR 12 l0), (1, aI l1), (2, aI l2)]) (st' := [aI l1, aI (gI Y.1 19 l0 (ix l2))]) (cs' := [vp_in l2 40]) (fun _ => rfl) (al1 (vin hc4)) ?_
        refine w_icmp_ne k38 rfl (fun c => ?_) (fun c => ?_)
        · replace h := if_f c h
          refine w_sg k38 1 (pc' := 27) (ls' := [(0, aR 12 l0), (1, aI l1), (2, aI (l2 + (nI 1)))]) (st' := []) (cs' := []) (fun _ => rfl) al0 ?_
          refine w_sg k38 1 (pc' := 2) (ls' := [(0, aR 12 l0), (1, aI l1), (2, aI (l2 + (nI 1)))]) (st' := []) (cs' := []) (fun _ => rfl) al0 ?_
          refine w_ls [(0, aR 12 l0), (1, aI l1), (2, aI (l2 + (nI 1)))] (lq_c rfl (lq_c rfl (lq_c rfl lq_n))) ?_
          obtain rfl := Option.some.inj h
          exact ih3 _ _ (lpn_l hn2)
        · replace h := if_t c h
          refine w_sg k38 1 (pc' := 23) (ls' := [(0, aR 12 l0), (1, aI l1), (2, aI l2)]) (st' := [aI l2]) (cs' := []) (fun _ => rfl) al0 ?_
          obtain rfl := Option.some.inj h
          obtain rfl := lpn_r hn2
          exact w_ireturn k38 ⟨rfl, rfl⟩
  refine w_sg k38 2 (pc' := 2) (ls' := [(0, aR 12 i0), (1, aI a1), (2, aI (nI 0))]) (st' := []) (cs' := []) (fun _ => rfl) al0 ?_
  refine w_ls [(0, aR 12 i0), (1, aI a1), (2, aI (nI 0))] (lq_c rfl (lq_c rfl (lq_c rfl lq_n))) ?_
  exact L2_0 _ _ _ _ _ h
set_option maxRecDepth 20000 in
set_option maxHeartbeats 4000000 in
/-- BallotBus.indexOfRequest -/
theorem sn_158 (a1 : Int32) {Y : Sm} (v : (Int32 ⊕ Nat)) (Z : Sm) (h : fn_158 a1 Y = some (v, Z)) : Mt 6 1 158 [aR 0 0, aI a1] Y (Pz (fun v => some (aI v)) v Z) (Ez v Z) := by
  refine Mt_of [(0, aR 0 0), (1, aI a1)] ?_
  generalize ho : (v, Z) = o at h
  have hv9 : v = o.1 := congrArg Prod.fst ho
  have hZ9 : Z = o.2 := congrArg Prod.snd ho
  clear ho
  subst hv9 hZ9
  unfold fn_158 at h
  refine w_sg k158 4 (pc' := 8) (ls' := [(0, aR 0 0), (1, aI a1)]) (st' := [aI a1, aR 12 3]) (cs' := []) (fun _ => rfl) al0 ?_
  obtain ⟨v3, Y1, hv2, h⟩ := bd_some h
  refine w_cV1 k158 (sn_38 _ _ _ _ hv2) rfl (st := []) rfl ?_ (fun _ _ q => q.elim)
  refine w_sg k158 1 (pc' := 12) (ls' := [(0, aR 0 0), (1, aI a1), (2, aI v3)]) (st' := []) (cs' := []) (fun _ => rfl) al0 ?_
  refine w_sg k158 2 (pc' := 14) (ls' := [(0, aR 0 0), (1, aI a1), (2, aI v3)]) (st' := [aI (-1 : Int32), aI v3]) (cs' := []) (fun _ => rfl) al0 ?_
  refine w_icmp_ne k158 rfl (fun c => ?_) (fun c => ?_)
  · replace h := if_f c h
    refine w_sg k158 1 (pc' := 29) (ls' := [(0, aR 0 0), (1, aI a1), (2, aI v3)]) (st' := [aI v3]) (cs' := []) (fun _ => rfl) al0 ?_
    obtain rfl := Option.some.inj h
    exact w_ireturn k158 Pz_l
  · replace h := if_t c h
    obtain rfl := Option.some.inj h
    exact w_throw k158 rfl rfl Ez_r
set_option maxRecDepth 20000 in
set_option maxHeartbeats 4000000 in
/-- BallotBus.request -/
theorem sn_115 (a1 : Int32) (a2 : Int32) {Y : Sm} (v : (Int32 ⊕ Nat)) (Z : Sm) (h : fn_115 a1 a2 Y = some (v, Z)) : Mt 7 1 115 [aR 0 0, aI a1, aI a2] Y (Pz (fun v => some (aI v)) v Z) (Ez v Z) := by
  refine Mt_of [(0, aR 0 0), (1, aI a1), (2, aI a2)] ?_
  generalize ho : (v, Z) = o at h
  have hv9 : v = o.1 := congrArg Prod.fst ho
  have hZ9 : Z = o.2 := congrArg Prod.snd ho
  clear ho
  subst hv9 hZ9
  unfold fn_115 at h
  refine w_sg k115 1 (pc' := 1) (ls' := [(0, aR 0 0), (1, aI a1), (2, aI a2)]) (st' := [aI a2]) (cs' := []) (fun _ => rfl) al0 ?_
  refine w_if_lt k115 rfl (fun c => ?_) (fun c => ?_)
  · replace h := if_t c h
    obtain rfl := Option.some.inj h
    exact w_throw k115 rfl rfl Ez_r
  · replace h := if_f c h
    refine w_sg k115 2 (pc' := 6) (ls' := [(0, aR 0 0), (1, aI a1), (2, aI a2)]) (st' := [aI (nI 4), aI a2]) (cs' := []) (fun _ => rfl) al0 ?_
    refine w_icmp_le k115 rfl (fun c => ?_) (fun c => ?_)
    · replace h := if_t c h
      refine w_sg k115 5 (pc' := 30) (ls' := [(0, aR 0 0), (1, aI a1), (2, aI a2)]) (st' := [aI a2, aR 13 3]) (cs' := []) (fun _ => rfl) al0 ?_
      by_cases c0 : a2 = (nI 0)
      · replace h := if_t c0 h
        subst c0
        refine w_sg k115 1 (pc' := 31) (ls' := [(0, aR 0 0), (1, aI a1), (2, aI (nI 0))]) (st' := [aR 14 3]) (cs' := [vp_in (nI 0) 6]) (fun _ => rfl) (al1 (vin rfl)) ?_
        refine w_sg k115 2 (pc' := 33) (ls' := [(0, aR 0 0), (1, aI a1), (2, aI (nI 0))]) (st' := [aI a1, aR 0 0, aR 14 3]) (cs' := []) (fun _ => rfl) al0 ?_
        obtain ⟨o6, Y1, hv2, ⟨v3, ho7, h⟩ | ⟨x5, ho7, h⟩⟩ := bx_some h
        · subst ho7
          refine w_cV1 k115 (sn_158 _ _ _ hv2) rfl (st := [aR 14 3]) rfl ?_ (fun _ _ q => q.elim)
          obtain ⟨hc4, h⟩ := ck_some h
          refine w_sg k115 1 (pc' := 37) (ls' := [(0, aR 0 0), (1, aI a1), (2, aI (nI 0))]) (st' := [aI (gI Y1.1 14 3 (ix v3))]) (cs' := [vp_in v3 40]) (fun _ => rfl) (al1 (vin hc4)) ?_
          obtain rfl := Option.some.inj h
          exact w_ireturn k115 Pz_l
        · subst ho7
          obtain rfl := Option.some.inj h
          exact w_xcallV k115 (sn_158 _ _ _ hv2) rfl (st := [aR 14 3]) rfl Ez_r
      replace h := if_f c0 h
      by_cases c1 : a2 = (nI 1)
      · replace h := if_t c1 h
        subst c1
        refine w_sg k115 1 (pc' := 31) (ls' := [(0, aR 0 0), (1, aI a1), (2, aI (nI 1))]) (st' := [aR 15 3]) (cs' := [vp_in (nI 1) 6]) (fun _ => rfl) (al1 (vin rfl)) ?_
        refine w_sg k115 2 (pc' := 33) (ls' := [(0, aR 0 0), (1, aI a1), (2, aI (nI 1))]) (st' := [aI a1, aR 0 0, aR 15 3]) (cs' := []) (fun _ => rfl) al0 ?_
        obtain ⟨o13, Y8, hv9, ⟨v10, ho14, h⟩ | ⟨x12, ho14, h⟩⟩ := bx_some h
        · subst ho14
          refine w_cV1 k115 (sn_158 _ _ _ hv9) rfl (st := [aR 15 3]) rfl ?_ (fun _ _ q => q.elim)
          obtain ⟨hc11, h⟩ := ck_some h
          refine w_sg k115 1 (pc' := 37) (ls' := [(0, aR 0 0), (1, aI a1), (2, aI (nI 1))]) (st' := [aI (gI Y8.1 15 3 (ix v10))]) (cs' := [vp_in v10 40]) (fun _ => rfl) (al1 (vin hc11)) ?_
          obtain rfl := Option.some.inj h
          exact w_ireturn k115 Pz_l
        · subst ho14
          obtain rfl := Option.some.inj h
          exact w_xcallV k115 (sn_158 _ _ _ hv9) rfl (st := [aR 15 3]) rfl Ez_r
      replace h := if_f c1 h
      by_cases c2 : a2 = (nI 2)
      · replace h := if_t c2 h
        subst c2
        refine w_sg k115 1 (pc' := 31) (ls' := [(0, aR 0 0), (1, aI a1), (2, aI (nI 2))]) (st' := [aR 16 3]) (cs' := [vp_in (nI 2) 6]) (fun _ => rfl) (al1 (vin rfl)) ?_
        refine w_sg k115 2 (pc' := 33) (ls' := [(0, aR 0 0), (1, aI a1), (2, aI (nI 2))]) (st' := [aI a1, aR 0 0, aR 16 3]) (cs' := []) (fun _ => rfl) al0 ?_
        obtain ⟨o20, Y15, hv16, ⟨v17, ho21, h⟩ | ⟨x19, ho21, h⟩⟩ := bx_some h
        · subst ho21
          refine w_cV1 k115 (sn_158 _ _ _ hv16) rfl (st := [aR 16 3]) rfl ?_ (fun _ _ q => q.elim)
          obtain ⟨hc18, h⟩ := ck_some h
          refine w_sg k115 1 (pc' := 37) (ls' := [(0, aR 0 0), (1, aI a1), (2, aI (nI 2))]) (st' := [aI (gI Y15.1 16 3 (ix v17))]) (cs' := [vp_in v17 40]) (fun _ => rfl) (al1 (vin hc18)) ?_
          obtain rfl := Option.some.inj h
          exact w_ireturn k115 Pz_l
        · subst ho21
          obtain rfl := Option.some.inj h
          exact w_xcallV k115 (sn_158 _ _ _ hv16) rfl (st := [aR 16 3]) rfl Ez_r
      replace h := if_f c2 h
      by_cases c3 : a2 = (nI 3)
      · replace h := if_t c3 h
        subst c3
        refine w_sg k115 1 (pc' := 31) (ls' := [(0, aR 0 0), (1, aI a1), (2, aI (nI 3))]) (st' := [aR 17 3]) (cs' := [vp_in (nI 3) 6]) (fun _ => rfl) (al1 (vin rfl)) ?_
        refine w_sg k115 2 (pc' := 33) (ls' := [(0, aR 0 0), (1, aI a1), (2, aI (nI 3))]) (st' := [aI a1, aR 0 0, aR 17 3]) (cs' := []) (fun _ => rfl) al0 ?_
        obtain ⟨o27, Y22, hv23, ⟨v24, ho28, h⟩ | ⟨x26, ho28, h⟩⟩ := bx_some h
        · subst ho28
          refine w_cV1 k115 (sn_158 _ _ _ hv23) rfl (st := [aR 17 3]) rfl ?_ (fun _ _ q => q.elim)
          obtain ⟨hc25, h⟩ := ck_some h
          refine w_sg k115 1 (pc' := 37) (ls' := [(0, aR 0 0), (1, aI a1), (2, aI (nI 3))]) (st' := [aI (gI Y22.1 17 3 (ix v24))]) (cs' := [vp_in v24 40]) (fun _ => rfl) (al1 (vin hc25)) ?_
          obtain rfl := Option.some.inj h
          exact w_ireturn k115 Pz_l
        · subst ho28
          obtain rfl := Option.some.inj h
          exact w_xcallV k115 (sn_158 _ _ _ hv23) rfl (st := [aR 17 3]) rfl Ez_r
      replace h := if_f c3 h
      by_cases c4 : a2 = (nI 4)
      · replace h := if_t c4 h
        subst c4
        refine w_sg k115 1 (pc' := 31) (ls' := [(0, aR 0 0), (1, aI a1), (2, aI (nI 4))]) (st' := [aR 18 3]) (cs' := [vp_in (nI 4) 6]) (fun _ => rfl) (al1 (vin rfl)) ?_
        refine w_sg k115 2 (pc' := 33) (ls' := [(0, aR 0 0), (1, aI a1), (2, aI (nI 4))]) (st' := [aI a1, aR 0 0, aR 18 3]) (cs' := []) (fun _ => rfl) al0 ?_
        obtain ⟨o34, Y29, hv30, ⟨v31, ho35, h⟩ | ⟨x33, ho35, h⟩⟩ := bx_some h
        · subst ho35
          refine w_cV1 k115 (sn_158 _ _ _ hv30) rfl (st := [aR 18 3]) rfl ?_ (fun _ _ q => q.elim)
          obtain ⟨hc32, h⟩ := ck_some h
          refine w_sg k115 1 (pc' := 37) (ls' := [(0, aR 0 0), (1, aI a1), (2, aI (nI 4))]) (st' := [aI (gI Y29.1 18 3 (ix v31))]) (cs' := [vp_in v31 40]) (fun _ => rfl) (al1 (vin hc32)) ?_
          obtain rfl := Option.some.inj h
          exact w_ireturn k115 Pz_l
        · subst ho35
          obtain rfl := Option.some.inj h
          exact w_xcallV k115 (sn_158 _ _ _ hv30) rfl (st := [aR 18 3]) rfl Ez_r
      replace h := if_f c4 h
      by_cases c5 : a2 = (nI 5)
      · replace h := if_t c5 h
        subst c5
        refine w_sg k115 1 (pc' := 31) (ls' := [(0, aR 0 0), (1, aI a1), (2, aI (nI 5))]) (st' := [aR 19 3]) (cs' := [vp_in (nI 5) 6]) (fun _ => rfl) (al1 (vin rfl)) ?_
        refine w_sg k115 2 (pc' := 33) (ls' := [(0, aR 0 0), (1, aI a1), (2, aI (nI 5))]) (st' := [aI a1, aR 0 0, aR 19 3]) (cs' := []) (fun _ => rfl) al0 ?_
        obtain ⟨o41, Y36, hv37, ⟨v38, ho42, h⟩ | ⟨x40, ho42, h⟩⟩ := bx_some h
        · subst ho42
          refine w_cV1 k115 (sn_158 _ _ _ hv37) rfl (st := [aR 19 3]) rfl ?_ (fun _ _ q => q.elim)
          obtain ⟨hc39, h⟩ := ck_some h
          refine w_sg k115 1 (pc' := 37) (ls' := [(0, aR 0 0), (1, aI a1), (2, aI (nI 5))]) (st' := [aI (gI Y36.1 19 3 (ix v38))]) (cs' := [vp_in v38 40]) (fun _ => rfl) (al1 (vin hc39)) ?_
          obtain rfl := Option.some.inj h
          exact w_ireturn k115 Pz_l
        · subst ho42
          obtain rfl := Option.some.inj h
          exact w_xcallV k115 (sn_158 _ _ _ hv37) rfl (st := [aR 19 3]) rfl Ez_r
      replace h := if_f c5 h
      cases h
    · replace h := if_f c h
      obtain rfl := Option.some.inj h
      exact w_throw k115 rfl rfl Ez_r
set_option maxRecDepth 20000 in
set_option maxHeartbeats 4000000 in
/-- BallotBus$State.numberAhead -/
theorem sn_78 (i0 : Nat) (a1 : Int32) (a2 : Int32) {Y : Sm} (v : Int32) (Z : Sm) (h : fn_78 i0 a1 a2 Y = some (v, Z)) : Mt 6 0 78 [aR 21 i0, aI a1, aI a2] Y (Rt (some (aI v)) Z) nX := by
  refine Mt_of [(0, aR 21 i0), (1, aI a1), (2, aI a2)] ?_
  generalize ho : (v, Z) = o at h
  have hv9 : v = o.1 := congrArg Prod.fst ho
  have hZ9 : Z = o.2 := congrArg Prod.snd ho
  clear ho
  subst hv9 hZ9
  unfold fn_78 at h
  have L12_0 : ∀ (l0 : Nat) (l1 : Int32) (l2 : Int32) (l4 : Int32) (n : Nat) (l3 : Int32) (l5 : Int32) (Y : Sm), lp (fun s => fn_78_L12 l0 l1 l2 l4 s.1 s.2.1 s.2.2) n (l3, l5, Y) = some o → Wm 6 0 78 0 12 [(0, aR 21 l0), (1, aI l1), (2, aI l2), (3, aI l3), (4, aI l4), (5, aI l5)] [] Y (Rt (some (aI o.1)) o.2) nX := by
    intro l0 l1 l2 l4 n
    induction n with
    | zero => intro l3 l5 Y h; cases h
    | succ n ih6 =>
      intro l3 l5 Y h
      obtain ⟨q4, h, hn5⟩ := lp_succ h
      replace h : fn_78_L12 l0 l1 l2 l4 l3 l5 Y = some q4 := h
      unfold fn_78_L12 at h
      refine w_sg k78 4 (pc' := 21) (ls' := [(0, aR 21 l0), (1, aI l1), (2, aI l2), (3, aI l3), (4, aI l4), (5, aI l5)]) (st' := [aI (gI Y.1 12 (l0 + 3) 1), aI l5]) (cs' := []) (fun _ => rfl) al0 ?_
      refine w_icmp_ge k78 rfl (fun c => ?_) (fun c => ?_)
      · replace h := if_t c h
        refine w_sg k78 1 (pc' := 72) (ls' := [(0, aR 21 l0), (1, aI l1), (2, aI l2), (3, aI l3), (4, aI l4), (5, aI l5)]) (st' := [aI l3]) (cs' := []) (fun _ => rfl) al0 ?_
        obtain rfl := Option.some.inj h
        obtain rfl := lpn_r hn5
        exact w_ireturn k78 ⟨rfl, rfl⟩
      · replace h := if_f c h
        refine w_sg k78 3 (pc' := 28) (ls' := [(0, aR 21 l0), (1, aI l1), (2, aI l2), (3, aI l3), (4, aI l4), (5, aI l5)]) (st' := [aI l2, aI l5, aR 21 l0]) (cs' := []) (fun _ => rfl) al0 ?_
        obtain ⟨v9, Y7, hv8, h⟩ := bd_some h
        refine w_cV1 k78 (sn_79 _ _ _ _ _ hv8) rfl (st := []) rfl ?_ (fun _ _ q => q.elim)
        refine w_if_eq k78 rfl (fun c => ?_) (fun c => ?_)
        · replace h := if_t c h
          refine w_sg k78 1 (pc' := 68) (ls' := [(0, aR 21 l0), (1, aI l1), (2, aI l2), (3, aI l3), (4, aI l4), (5, aI (l5 + (nI 1)))]) (st' := []) (cs' := []) (fun _ => rfl) al0 ?_
          refine w_sg k78 1 (pc' := 12) (ls' := [(0, aR 21 l0), (1, aI l1), (2, aI l2), (3, aI l3), (4, aI l4), (5, aI (l5 + (nI 1)))]) (st' := []) (cs' := []) (fun _ => rfl) al0 ?_
          refine w_ls [(0, aR 21 l0), (1, aI l1), (2, aI l2), (3, aI l3), (4, aI l4), (5, aI (l5 + (nI 1)))] (lq_c rfl (lq_c rfl (lq_c rfl (lq_c rfl (lq_c rfl (lq_c rfl lq_n)))))) ?_
          obtain rfl := Option.some.inj h
          exact ih6 _ _ _ (lpn_l hn5)
        · replace h := if_f c h
          refine w_sg k78 2 (pc' := 37) (ls' := [(0, aR 21 l0), (1, aI l1), (2, aI l2), (3, aI l3), (4, aI l4), (5, aI l5)]) (st' := [aI l5, aR 21 l0]) (cs' := []) (fun _ => rfl) al0 ?_
          obtain ⟨v12, Y10, hv11, h⟩ := bd_some h
          refine w_cV1 k78 (sn_80 _ _ _ _ hv11) rfl (st := []) rfl ?_ (fun _ _ q => q.elim)
          refine w_sg k78 1 (pc' := 42) (ls' := [(0, aR 21 l0), (1, aI l1), (2, aI l2), (3, aI l3), (4, aI l4), (5, aI l5)]) (st' := [aI l4, aI v12]) (cs' := []) (fun _ => rfl) al0 ?_
          refine w_icmp_lt k78 rfl (fun c => ?_) (fun c => ?_)
          · replace h := if_t c h
            refine w_sg k78 1 (pc' := 65) (ls' := [(0, aR 21 l0), (1, aI l1), (2, aI l2), (3, aI (l3 + (nI 1))), (4, aI l4), (5, aI l5)]) (st' := []) (cs' := []) (fun _ => rfl) al0 ?_
            refine w_sg k78 1 (pc' := 68) (ls' := [(0, aR 21 l0), (1, aI l1), (2, aI l2), (3, aI (l3 + (nI 1))), (4, aI l4), (5, aI (l5 + (nI 1)))]) (st' := []) (cs' := []) (fun _ => rfl) al0 ?_
            refine w_sg k78 1 (pc' := 12) (ls' := [(0, aR 21 l0), (1, aI l1), (2, aI l2), (3, aI (l3 + (nI 1))), (4, aI l4), (5, aI (l5 + (nI 1)))]) (st' := []) (cs' := []) (fun _ => rfl) al0 ?_
            refine w_ls [(0, aR 21 l0), (1, aI l1), (2, aI l2), (3, aI (l3 + (nI 1))), (4, aI l4), (5, aI (l5 + (nI 1)))] (lq_c rfl (lq_c rfl (lq_c rfl (lq_c rfl (lq_c rfl (lq_c rfl lq_n)))))) ?_
            obtain rfl := Option.some.inj h
            exact ih6 _ _ _ (lpn_l hn5)
          · replace h := if_f c h
            refine w_sg k78 2 (pc' := 48) (ls' := [(0, aR 21 l0), (1, aI l1), (2, aI l2), (3, aI l3), (4, aI l4), (5, aI l5)]) (st' := [aI l5, aR 21 l0]) (cs' := []) (fun _ => rfl) al0 ?_
            obtain ⟨v15, Y13, hv14, h⟩ := bd_some h
            refine w_cV1 k78 (sn_80 _ _ _ _ hv14) rfl (st := []) rfl ?_ (fun _ _ q => q.elim)
            refine w_sg k78 1 (pc' := 53) (ls' := [(0, aR 21 l0), (1, aI l1), (2, aI l2), (3, aI l3), (4, aI l4), (5, aI l5)]) (st' := [aI l4, aI v15]) (cs' := []) (fun _ => rfl) al0 ?_
            refine w_icmp_ne k78 rfl (fun c => ?_) (fun c => ?_)
            · replace h := if_f c h
              refine w_sg k78 1 (pc' := 68) (ls' := [(0, aR 21 l0), (1, aI l1), (2, aI l2), (3, aI l3), (4, aI l4), (5, aI (l5 + (nI 1)))]) (st' := []) (cs' := []) (fun _ => rfl) al0 ?_
              refine w_sg k78 1 (pc' := 12) (ls' := [(0, aR 21 l0), (1, aI l1), (2, aI l2), (3, aI l3), (4, aI l4), (5, aI (l5 + (nI 1)))]) (st' := []) (cs' := []) (fun _ => rfl) al0 ?_
              refine w_ls [(0, aR 21 l0), (1, aI l1), (2, aI l2), (3, aI l3), (4, aI l4), (5, aI (l5 + (nI 1)))] (lq_c rfl (lq_c rfl (lq_c rfl (lq_c rfl (lq_c rfl (lq_c rfl lq_n)))))) ?_
              obtain rfl := Option.some.inj h
              exact ih6 _ _ _ (lpn_l hn5)
            · replace h := if_t c h
              refine w_sg k78 2 (pc' := 59) (ls' := [(0, aR 21 l0), (1, aI l1), (2, aI l2), (3, aI l3), (4, aI l4), (5, aI l5)]) (st' := [aI l1, aI l5]) (cs' := []) (fun _ => rfl) al0 ?_
              refine w_icmp_ge k78 rfl (fun c => ?_) (fun c => ?_)
              · replace h := if_t c h
                refine w_sg k78 1 (pc' := 68) (ls' := [(0, aR 21 l0), (1, aI l1), (2, aI l2), (3, aI l3), (4, aI l4), (5, aI (l5 + (nI 1)))]) (st' := []) (cs' := []) (fun _ => rfl) al0 ?_
                refine w_sg k78 1 (pc' := 12) (ls' := [(0, aR 21 l0), (1, aI l1), (2, aI l2), (3, aI l3), (4, aI l4), (5, aI (l5 + (nI 1)))]) (st' := []) (cs' := []) (fun _ => rfl) al0 ?_
                refine w_ls [(0, aR 21 l0), (1, aI l1), (2, aI l2), (3, aI l3), (4, aI l4), (5, aI (l5 + (nI 1)))] (lq_c rfl (lq_c rfl (lq_c rfl (lq_c rfl (lq_c rfl (lq_c rfl lq_n)))))) ?_
                obtain rfl := Option.some.inj h
                exact ih6 _ _ _ (lpn_l hn5)
              · replace h := if_f c h
                refine w_sg k78 1 (pc' := 65) (ls' := [(0, aR 21 l0), (1, aI l1), (2, aI l2), (3, aI (l3 + (nI 1))), (4, aI l4), (5, aI l5)]) (st' := []) (cs' := []) (fun _ => rfl) al0 ?_
                refine w_sg k78 1 (pc' := 68) (ls' := [(0, aR 21 l0), (1, aI l1), (2, aI l2), (3, aI (l3 + (nI 1))), (4, aI l4), (5, aI (l5 + (nI 1)))]) (st' := []) (cs' := []) (fun _ => rfl) al0 ?_
                refine w_sg k78 1 (pc' := 12) (ls' := [(0, aR 21 l0), (1, aI l1), (2, aI l2), (3, aI (l3 + (nI 1))), (4, aI l4), (5, aI (l5 + (nI 1)))]) (st' := []) (cs' := []) (fun _ => rfl) al0 ?_
                refine w_ls [(0, aR 21 l0), (1, aI l1), (2, aI l2), (3, aI (l3 + (nI 1))), (4, aI l4), (5, aI (l5 + (nI 1)))] (lq_c rfl (lq_c rfl (lq_c rfl (lq_c rfl (lq_c rfl (lq_c rfl lq_n)))))) ?_
                obtain rfl := Option.some.inj h
                exact ih6 _ _ _ (lpn_l hn5)
  refine w_sg k78 2 (pc' := 2) (ls' := [(0, aR 21 i0), (1, aI a1), (2, aI a2), (3, aI (nI 0))]) (st' := []) (cs' := []) (fun _ => rfl) al0 ?_
  refine w_sg k78 2 (pc' := 4) (ls' := [(0, aR 21 i0), (1, aI a1), (2, aI a2), (3, aI (nI 0))]) (st' := [aI a1, aR 21 i0]) (cs' := []) (fun _ => rfl) al0 ?_
  obtain ⟨v3, Y1, hv2, h⟩ := bd_some h
  refine w_cV1 k78 (sn_80 _ _ _ _ hv2) rfl (st := []) rfl ?_ (fun _ _ q => q.elim)
  refine w_sg k78 1 (pc' := 9) (ls' := [(0, aR 21 i0), (1, aI a1), (2, aI a2), (3, aI (nI 0)), (4, aI v3)]) (st' := []) (cs' := []) (fun _ => rfl) al0 ?_
  refine w_sg k78 2 (pc' := 12) (ls' := [(0, aR 21 i0), (1, aI a1), (2, aI a2), (3, aI (nI 0)), (4, aI v3), (5, aI (nI 0))]) (st' := []) (cs' := []) (fun _ => rfl) al0 ?_
  refine w_ls [(0, aR 21 i0), (1, aI a1), (2, aI a2), (3, aI (nI 0)), (4, aI v3), (5, aI (nI 0))] (lq_c rfl (lq_c rfl (lq_c rfl (lq_c rfl (lq_c rfl (lq_c rfl lq_n)))))) ?_
  exact L12_0 _ _ _ _ _ _ _ _ h
set_option maxRecDepth 20000 in
set_option maxHeartbeats 4000000 in
/-- BallotBus$State.inLine -/
theorem sn_77 (i0 : Nat) (a1 : Int32) (a2 : Int32) {Y : Sm} (v : Int32) (Z : Sm) (h : fn_77 i0 a1 a2 Y = some (v, Z)) : Mt 7 0 77 [aR 21 i0, aI a1, aI a2] Y (Rt (some (aI v)) Z) nX := by
  refine Mt_of [(0, aR 21 i0), (1, aI a1), (2, aI a2)] ?_
  generalize ho : (v, Z) = o at h
  have hv9 : v = o.1 := congrArg Prod.fst ho
  have hZ9 : Z = o.2 := congrArg Prod.snd ho
  clear ho
  subst hv9 hZ9
  unfold fn_77 at h
  have L2_0 : ∀ (l0 : Nat) (l1 : Int32) (l2 : Int32) (n : Nat) (l3 : Int32) (Y : Sm), lp (fun s => fn_77_L2 l0 l1 l2 s.1 s.2) n (l3, Y) = some o → Wm 7 0 77 0 2 [(0, aR 21 l0), (1, aI l1), (2, aI l2), (3, aI l3)] [] Y (Rt (some (aI o.1)) o.2) nX := by
    intro l0 l1 l2 n
    induction n with
    | zero => intro l3 Y h; cases h
    | succ n ih3 =>
      intro l3 Y h
      obtain ⟨q1, h, hn2⟩ := lp_succ h
      replace h : fn_77_L2 l0 l1 l2 l3 Y = some q1 := h
      unfold fn_77_L2 at h
      refine w_sg k77 4 (pc' := 10) (ls' := [(0, aR 21 l0), (1, aI l1), (2, aI l2), (3, aI l3)]) (st' := [aI (gI Y.1 12 (l0 + 3) 1), aI l3]) (cs' := []) (fun _ => rfl) al0 ?_
      refine w_icmp_ge k77 rfl (fun c => ?_) (fun c => ?_)
      · replace h := if_t c h
        refine w_sg k77 1 (pc' := 41) (ls' := [(0, aR 21 l0), (1, aI l1), (2, aI l2), (3, aI l3)]) (st' := [aI (-1 : Int32)]) (cs' := []) (fun _ => rfl) al0 ?_
        obtain rfl := Option.some.inj h
        obtain rfl := lpn_r hn2
        exact w_ireturn k77 ⟨rfl, rfl⟩
      · replace h := if_f c h
        refine w_sg k77 3 (pc' := 16) (ls' := [(0, aR 21 l0), (1, aI l1), (2, aI l2), (3, aI l3)]) (st' := [aI l1, aI l3, aR 21 l0]) (cs' := []) (fun _ => rfl) al0 ?_
        obtain ⟨v6, Y4, hv5, h⟩ := bd_some h
        refine w_cV1 k77 (sn_79 _ _ _ _ _ hv5) rfl (st := []) rfl ?_ (fun _ _ q => q.elim)
        refine w_if_eq k77 rfl (fun c => ?_) (fun c => ?_)
        · replace h := if_t c h
          refine w_sg k77 1 (pc' := 37) (ls' := [(0, aR 21 l0), (1, aI l1), (2, aI l2), (3, aI (l3 + (nI 1)))]) (st' := []) (cs' := []) (fun _ => rfl) al0 ?_
          refine w_sg k77 1 (pc' := 2) (ls' := [(0, aR 21 l0), (1, aI l1), (2, aI l2), (3, aI (l3 + (nI 1)))]) (st' := []) (cs' := []) (fun _ => rfl) al0 ?_
          refine w_ls [(0, aR 21 l0), (1, aI l1), (2, aI l2), (3, aI (l3 + (nI 1)))] (lq_c rfl (lq_c rfl (lq_c rfl (lq_c rfl lq_n)))) ?_
          obtain rfl := Option.some.inj h
          exact ih3 _ _ (lpn_l hn2)
        · replace h := if_f c h
          refine w_sg k77 3 (pc' := 25) (ls' := [(0, aR 21 l0), (1, aI l1), (2, aI l2), (3, aI l3)]) (st' := [aI l1, aI l3, aR 21 l0]) (cs' := []) (fun _ => rfl) al0 ?_
          obtain ⟨v9, Y7, hv8, h⟩ := bd_some h
          refine w_cV1 k77 (sn_78 _ _ _ _ _ hv8) rfl (st := []) rfl ?_ (fun _ _ q => q.elim)
          refine w_sg k77 1 (pc' := 29) (ls' := [(0, aR 21 l0), (1, aI l1), (2, aI l2), (3, aI l3)]) (st' := [aI l2, aI v9]) (cs' := []) (fun _ => rfl) al0 ?_
          refine w_icmp_ne k77 rfl (fun c => ?_) (fun c => ?_)
          · replace h := if_f c h
            refine w_sg k77 1 (pc' := 37) (ls' := [(0, aR 21 l0), (1, aI l1), (2, aI l2), (3, aI (l3 + (nI 1)))]) (st' := []) (cs' := []) (fun _ => rfl) al0 ?_
            refine w_sg k77 1 (pc' := 2) (ls' := [(0, aR 21 l0), (1, aI l1), (2, aI l2), (3, aI (l3 + (nI 1)))]) (st' := []) (cs' := []) (fun _ => rfl) al0 ?_
            refine w_ls [(0, aR 21 l0), (1, aI l1), (2, aI l2), (3, aI (l3 + (nI 1)))] (lq_c rfl (lq_c rfl (lq_c rfl (lq_c rfl lq_n)))) ?_
            obtain rfl := Option.some.inj h
            exact ih3 _ _ (lpn_l hn2)
          · replace h := if_t c h
            refine w_sg k77 1 (pc' := 33) (ls' := [(0, aR 21 l0), (1, aI l1), (2, aI l2), (3, aI l3)]) (st' := [aI l3]) (cs' := []) (fun _ => rfl) al0 ?_
            obtain rfl := Option.some.inj h
            obtain rfl := lpn_r hn2
            exact w_ireturn k77 ⟨rfl, rfl⟩
  refine w_sg k77 2 (pc' := 2) (ls' := [(0, aR 21 i0), (1, aI a1), (2, aI a2), (3, aI (nI 0))]) (st' := []) (cs' := []) (fun _ => rfl) al0 ?_
  refine w_ls [(0, aR 21 i0), (1, aI a1), (2, aI a2), (3, aI (nI 0))] (lq_c rfl (lq_c rfl (lq_c rfl (lq_c rfl lq_n)))) ?_
  exact L2_0 _ _ _ _ _ _ h
set_option maxRecDepth 20000 in
set_option maxHeartbeats 4000000 in
/-- BallotBus.line -/
theorem sn_116 (a1 : Int32) (a2 : Int32) {Y : Sm} (v : (Int32 ⊕ Nat)) (Z : Sm) (h : fn_116 a1 a2 Y = some (v, Z)) : Mt 8 2 116 [aR 0 0, aI a1, aI a2] Y (Pz (fun v => some (aI v)) v Z) (Ez v Z) := by
  refine Mt_of [(0, aR 0 0), (1, aI a1), (2, aI a2)] ?_
  generalize ho : (v, Z) = o at h
  have hv9 : v = o.1 := congrArg Prod.fst ho
  have hZ9 : Z = o.2 := congrArg Prod.snd ho
  clear ho
  subst hv9 hZ9
  unfold fn_116 at h
  refine w_sg k116 2 (pc' := 2) (ls' := [(0, aR 0 0), (1, aI a1), (2, aI a2)]) (st' := [aI a1, aR 0 0]) (cs' := []) (fun _ => rfl) al0 ?_
  obtain ⟨o10, Y1, hv2, ⟨_, ho11, h⟩ | ⟨x9, ho11, h⟩⟩ := bx_some h
  · subst ho11
    refine w_cV0 k116 (sn_155 _ _ _ hv2) rfl (st := []) rfl ?_ (fun _ _ q => q.elim)
    refine w_sg k116 4 (pc' := 11) (ls' := [(0, aR 0 0), (1, aI a1), (2, aI a2)]) (st' := [aI a2, aI a1, aR 21 0]) (cs' := []) (fun _ => rfl) al0 ?_
    obtain ⟨v5, Y3, hv4, h⟩ := bd_some h
    refine w_cV1 k116 (sn_77 _ _ _ _ _ hv4) rfl (st := []) rfl ?_ (fun _ _ q => q.elim)
    refine w_sg k116 1 (pc' := 15) (ls' := [(0, aR 0 0), (1, aI a1), (2, aI a2), (3, aI v5)]) (st' := []) (cs' := []) (fun _ => rfl) al0 ?_
    refine w_sg k116 2 (pc' := 17) (ls' := [(0, aR 0 0), (1, aI a1), (2, aI a2), (3, aI v5)]) (st' := [aI (-1 : Int32), aI v5]) (cs' := []) (fun _ => rfl) al0 ?_
    refine w_icmp_ne k116 rfl (fun c => ?_) (fun c => ?_)
    · replace h := if_f c h
      refine w_sg k116 4 (pc' := 39) (ls' := [(0, aR 0 0), (1, aI a1), (2, aI a2), (3, aI v5)]) (st' := [aI v5, aR 12 3]) (cs' := []) (fun _ => rfl) al0 ?_
      obtain ⟨v8, Y6, hv7, h⟩ := bd_some h
      refine w_cV1 k116 (sn_39 _ _ _ _ hv7) rfl (st := []) rfl ?_ (fun _ _ q => q.elim)
      obtain rfl := Option.some.inj h
      exact w_ireturn k116 Pz_l
    · replace h := if_t c h
      obtain rfl := Option.some.inj h
      exact w_throw k116 rfl rfl Ez_r
  · subst ho11
    obtain rfl := Option.some.inj h
    exact w_xcallV k116 (sn_155 _ _ _ hv2) rfl (st := []) rfl Ez_r
set_option maxRecDepth 20000 in
set_option maxHeartbeats 4000000 in
/-- BallotBus.progress -/
theorem sn_117 {Y : Sm} (v : Int32) (Z : Sm) (h : fn_117 Y = some (v, Z)) : Mt 4 0 117 [aR 0 0] Y (Rt (some (aI v)) Z) nX := by
  refine Mt_of [(0, aR 0 0)] ?_
  generalize ho : (v, Z) = o at h
  have hv9 : v = o.1 := congrArg Prod.fst ho
  have hZ9 : Z = o.2 := congrArg Prod.snd ho
  clear ho
  subst hv9 hZ9
  unfold fn_117 at h
  refine w_sg k117 4 (pc' := 10) (ls' := [(0, aR 0 0)]) (st' := [aI (gI Y.1 12 3 2)]) (cs' := []) (fun _ => rfl) al0 ?_
  obtain rfl := Option.some.inj h
  exact w_ireturn k117 ⟨rfl, rfl⟩
set_option maxRecDepth 20000 in
set_option maxHeartbeats 4000000 in
/-- BallotBus$AnswerLog.look -/
theorem sn_12 (i0 : Nat) (a1 : Int32) (a2 : Int32) {Y : Sm} (v : Int32) (Z : Sm) (h : fn_12 i0 a1 a2 Y = some (v, Z)) : Mt 4 0 12 [aR 35 i0, aI a1, aI a2] Y (Rt (some (aI v)) Z) nX := by
  refine Mt_of [(0, aR 35 i0), (1, aI a1), (2, aI a2)] ?_
  generalize ho : (v, Z) = o at h
  have hv9 : v = o.1 := congrArg Prod.fst ho
  have hZ9 : Z = o.2 := congrArg Prod.snd ho
  clear ho
  subst hv9 hZ9
  unfold fn_12 at h
  refine w_sg k12 8 (pc' := 11) (ls' := [(0, aR 35 i0), (1, aI a1), (2, aI a2)]) (st' := [aI ((((gI Y.1 35 i0 1) - (nI 1)) - a1) + (nI 60))]) (cs' := []) (fun _ => rfl) al0 ?_
  refine w_sg k12 3 (pc' := 15) (ls' := [(0, aR 35 i0), (1, aI a1), (2, aI a2), (3, aI (((((gI Y.1 35 i0 1) - (nI 1)) - a1) + (nI 60)) - ((((gI Y.1 35 i0 1) - (nI 1)) - a1) + (nI 60)) / (nI 60) * (nI 60)))]) (st' := []) (cs' := [¬ (nI 60) = 0]) (fun _ => rfl) (al1 (by decide)) ?_
  refine w_sg k12 1 (pc' := 16) (ls' := [(0, aR 35 i0), (1, aI a1), (2, aI a2), (3, aI (((((gI Y.1 35 i0 1) - (nI 1)) - a1) + (nI 60)) - ((((gI Y.1 35 i0 1) - (nI 1)) - a1) + (nI 60)) / (nI 60) * (nI 60)))]) (st' := [aI (((((gI Y.1 35 i0 1) - (nI 1)) - a1) + (nI 60)) - ((((gI Y.1 35 i0 1) - (nI 1)) - a1) + (nI 60)) / (nI 60) * (nI 60))]) (cs' := []) (fun _ => rfl) al0 ?_
  refine w_if_ge k12 rfl (fun c => ?_) (fun c => ?_)
  · replace h := if_t c h
    obtain ⟨hc1, h⟩ := ck_some h
    refine w_sg k12 8 (pc' := 34) (ls' := [(0, aR 35 i0), (1, aI a1), (2, aI a2), (3, aI (((((gI Y.1 35 i0 1) - (nI 1)) - a1) + (nI 60)) - ((((gI Y.1 35 i0 1) - (nI 1)) - a1) + (nI 60)) / (nI 60) * (nI 60)))]) (st' := [aI (gI Y.1 36 i0 (ix (((((((gI Y.1 35 i0 1) - (nI 1)) - a1) + (nI 60)) - ((((gI Y.1 35 i0 1) - (nI 1)) - a1) + (nI 60)) / (nI 60) * (nI 60)) * (nI 6)) + a2)))]) (cs' := [vp_in (((((((gI Y.1 35 i0 1) - (nI 1)) - a1) + (nI 60)) - ((((gI Y.1 35 i0 1) - (nI 1)) - a1) + (nI 60)) / (nI 60) * (nI 60)) * (nI 6)) + a2) 360]) (fun _ => rfl) (al1 (vin hc1)) ?_
    obtain rfl := Option.some.inj h
    exact w_ireturn k12 ⟨rfl, rfl⟩
  · replace h := if_f c h
    refine w_sg k12 2 (pc' := 34) (ls' := [(0, aR 35 i0), (1, aI a1), (2, aI a2), (3, aI (((((gI Y.1 35 i0 1) - (nI 1)) - a1) + (nI 60)) - ((((gI Y.1 35 i0 1) - (nI 1)) - a1) + (nI 60)) / (nI 60) * (nI 60)))]) (st' := [aI (-1 : Int32)]) (cs' := []) (fun _ => rfl) al0 ?_
    obtain rfl := Option.some.inj h
    exact w_ireturn k12 ⟨rfl, rfl⟩
set_option maxRecDepth 20000 in
set_option maxHeartbeats 4000000 in
/-- BallotBus.answer -/
theorem sn_118 (a1 : Int32) (a2 : Int32) {Y : Sm} (v : (Int32 ⊕ Nat)) (Z : Sm) (h : fn_118 a1 a2 Y = some (v, Z)) : Mt 6 1 118 [aR 0 0, aI a1, aI a2] Y (Pz (fun v => some (aI v)) v Z) (Ez v Z) := by
  refine Mt_of [(0, aR 0 0), (1, aI a1), (2, aI a2)] ?_
  generalize ho : (v, Z) = o at h
  have hv9 : v = o.1 := congrArg Prod.fst ho
  have hZ9 : Z = o.2 := congrArg Prod.snd ho
  clear ho
  subst hv9 hZ9
  unfold fn_118 at h
  refine w_sg k118 1 (pc' := 1) (ls' := [(0, aR 0 0), (1, aI a1), (2, aI a2)]) (st' := [aI a2]) (cs' := []) (fun _ => rfl) al0 ?_
  refine w_if_lt k118 rfl (fun c => ?_) (fun c => ?_)
  · replace h := if_t c h
    obtain rfl := Option.some.inj h
    exact w_throw k118 rfl rfl Ez_r
  · replace h := if_f c h
    refine w_sg k118 2 (pc' := 7) (ls' := [(0, aR 0 0), (1, aI a1), (2, aI a2)]) (st' := [aI (nI 6), aI a2]) (cs' := []) (fun _ => rfl) al0 ?_
    refine w_icmp_lt k118 rfl (fun c => ?_) (fun c => ?_)
    · replace h := if_t c h
      refine w_sg k118 1 (pc' := 21) (ls' := [(0, aR 0 0), (1, aI a1), (2, aI a2)]) (st' := [aI a1]) (cs' := []) (fun _ => rfl) al0 ?_
      refine w_if_lt k118 rfl (fun c => ?_) (fun c => ?_)
      · replace h := if_t c h
        obtain rfl := Option.some.inj h
        exact w_throw k118 rfl rfl Ez_r
      · replace h := if_f c h
        refine w_sg k118 5 (pc' := 35) (ls' := [(0, aR 0 0), (1, aI a1), (2, aI a2)]) (st' := [aI (gI Y.1 35 0 2), aI a1]) (cs' := []) (fun _ => rfl) al0 ?_
        refine w_icmp_lt k118 rfl (fun c => ?_) (fun c => ?_)
        · replace h := if_t c h
          refine w_sg k118 5 (pc' := 58) (ls' := [(0, aR 0 0), (1, aI a1), (2, aI a2)]) (st' := [aI a2, aI a1, aR 35 0]) (cs' := []) (fun _ => rfl) al0 ?_
          obtain ⟨v3, Y1, hv2, h⟩ := bd_some h
          refine w_cV1 k118 (sn_12 _ _ _ _ _ hv2) rfl (st := []) rfl ?_ (fun _ _ q => q.elim)
          obtain rfl := Option.some.inj h
          exact w_ireturn k118 Pz_l
        · replace h := if_f c h
          obtain rfl := Option.some.inj h
          exact w_throw k118 rfl rfl Ez_r
    · replace h := if_f c h
      obtain rfl := Option.some.inj h
      exact w_throw k118 rfl rfl Ez_r
