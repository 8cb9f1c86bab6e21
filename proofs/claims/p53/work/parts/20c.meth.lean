/-! the code of the methods does what their functions say (printed by wip/whole/gen20.py) -/
set_option maxRecDepth 20000 in
set_option maxHeartbeats 4000000 in
/-- BallotBus$Requests.waits -/
theorem sn_40 (i0 : Nat) (a1 : Int32) {Y : Sm} (v : Int32) (Z : Sm) (h : fn_40 i0 a1 Y = some (v, Z)) : Mt 4 0 40 [aR 12 i0, aI a1] Y (Rt (some (aI v)) Z) nX := by
  refine Mt_of [(0, aR 12 i0), (1, aI a1)] ?_
  generalize ho : (v, Z) = o at h
  have hv9 : v = o.1 := congrArg Prod.fst ho
  have hZ9 : Z = o.2 := congrArg Prod.snd ho
  clear ho
  subst hv9 hZ9
  unfold fn_40 at h
  refine w_sg k40 4 (pc' := 6) (ls' := [(0, aR 12 i0), (1, aI a1)]) (st' := [aR 19 i0]) (cs' := [vp_in (nI 5) 6]) (fun _ => rfl) (al1 (vin rfl)) ?_
  obtain ⟨hc1, h⟩ := ck_some h
  refine w_sg k40 4 (pc' := 12) (ls' := [(0, aR 12 i0), (1, aI a1)]) (st' := [aI (gI Y.1 12 i0 2), aI (gI Y.1 19 i0 (ix a1))]) (cs' := [vp_in a1 40]) (fun _ => rfl) (al1 (vin hc1)) ?_
  refine w_icmp_eq k40 rfl (fun c => ?_) (fun c => ?_)
  · replace h := if_t c h
    refine w_sg k40 1 (pc' := 20) (ls' := [(0, aR 12 i0), (1, aI a1)]) (st' := [aI (nI 0)]) (cs' := []) (fun _ => rfl) al0 ?_
    obtain rfl := Option.some.inj h
    exact w_zreturn k40 (Or.inl rfl) ⟨rfl, rfl⟩
  · replace h := if_f c h
    refine w_sg k40 2 (pc' := 20) (ls' := [(0, aR 12 i0), (1, aI a1)]) (st' := [aI (nI 1)]) (cs' := []) (fun _ => rfl) al0 ?_
    obtain rfl := Option.some.inj h
    exact w_zreturn k40 (Or.inr rfl) ⟨rfl, rfl⟩
set_option maxRecDepth 20000 in
set_option maxHeartbeats 4000000 in
/-- BallotBus$Requests.waitingWith -/
theorem sn_42_12_c0 (i0 : Nat) (a2 : Int32) {Y : Sm} (v : Int32) (Z : Sm) (h : fn_42_12_c0 i0 a2 Y = some (v, Z)) : Mt 5 0 42 [aR 12 i0, aI (nI 0), aI a2] Y (Rt (some (aI v)) Z) nX := by
  refine Mt_of [(0, aR 12 i0), (1, aI (nI 0)), (2, aI a2)] ?_
  generalize ho : (v, Z) = o at h
  have hv9 : v = o.1 := congrArg Prod.fst ho
  have hZ9 : Z = o.2 := congrArg Prod.snd ho
  clear ho
  subst hv9 hZ9
  unfold fn_42_12_c0 at h
  have L5_0 : ∀ (l0 : Nat) (l2 : Int32) (n : Nat) (l3 : Int32) (l4 : Int32) (Y : Sm), lp (fun s => fn_42_12_c0_L5 l0 l2 s.1 s.2.1 s.2.2) n (l3, l4, Y) = some o → Wm 5 0 42 0 5 [(0, aR 12 l0), (1, aI (nI 0)), (2, aI l2), (3, aI l3), (4, aI l4)] [] Y (Rt (some (aI o.1)) o.2) nX := by
    intro l0 l2 n
    induction n with
    | zero => intro l3 l4 Y h; cases h
    | succ n ih3 =>
      intro l3 l4 Y h
      obtain ⟨q1, h, hn2⟩ := lp_succ h
      replace h : fn_42_12_c0_L5 l0 l2 l3 l4 Y = some q1 := h
      unfold fn_42_12_c0_L5 at h
      refine w_sg k42 3 (pc' := 11) (ls' := [(0, aR 12 l0), (1, aI (nI 0)), (2, aI l2), (3, aI l3), (4, aI l4)]) (st' := [aI (gI Y.1 12 l0 1), aI l4]) (cs' := []) (fun _ => rfl) al0 ?_
      refine w_icmp_ge k42 rfl (fun c => ?_) (fun c => ?_)
      · replace h := if_t c h
        refine w_sg k42 1 (pc' := 46) (ls' := [(0, aR 12 l0), (1, aI (nI 0)), (2, aI l2), (3, aI l3), (4, aI l4)]) (st' := [aI l3]) (cs' := []) (fun _ => rfl) al0 ?_
        obtain rfl := Option.some.inj h
        obtain rfl := lpn_r hn2
        exact w_ireturn k42 ⟨rfl, rfl⟩
      · replace h := if_f c h
        refine w_sg k42 4 (pc' := 20) (ls' := [(0, aR 12 l0), (1, aI (nI 0)), (2, aI l2), (3, aI l3), (4, aI l4)]) (st' := [aR 14 l0]) (cs' := [vp_in (nI 0) 6]) (fun _ => rfl) (al1 (vin rfl)) ?_
        obtain ⟨hc4, h⟩ := ck_some h
        refine w_sg k42 3 (pc' := 24) (ls' := [(0, aR 12 l0), (1, aI (nI 0)), (2, aI l2), (3, aI l3), (4, aI l4)]) (st' := [aI l2, aI (gI Y.1 14 l0 (ix l4))]) (cs' := [vp_in l4 40]) (fun _ => rfl) (al1 (vin hc4)) ?_
        refine w_icmp_ne k42 rfl (fun c => ?_) (fun c => ?_)
        · replace h := if_f c h
          refine w_sg k42 1 (pc' := 42) (ls' := [(0, aR 12 l0), (1, aI (nI 0)), (2, aI l2), (3, aI l3), (4, aI (l4 + (nI 1)))]) (st' := []) (cs' := []) (fun _ => rfl) al0 ?_
          refine w_sg k42 1 (pc' := 5) (ls' := [(0, aR 12 l0), (1, aI (nI 0)), (2, aI l2), (3, aI l3), (4, aI (l4 + (nI 1)))]) (st' := []) (cs' := []) (fun _ => rfl) al0 ?_
          refine w_ls [(0, aR 12 l0), (1, aI (nI 0)), (2, aI l2), (3, aI l3), (4, aI (l4 + (nI 1)))] (lq_c rfl (lq_c rfl (lq_c rfl (lq_c rfl (lq_c rfl lq_n))))) ?_
          obtain rfl := Option.some.inj h
          exact ih3 _ _ _ (lpn_l hn2)
        · replace h := if_t c h
          refine w_sg k42 2 (pc' := 30) (ls' := [(0, aR 12 l0), (1, aI (nI 0)), (2, aI l2), (3, aI l3), (4, aI l4)]) (st' := [aI l4, aR 12 l0]) (cs' := []) (fun _ => rfl) al0 ?_
          obtain ⟨v7, Y5, hv6, h⟩ := bd_some h
          refine w_cV1 k42 (sn_40 _ _ _ _ hv6) rfl (st := []) rfl ?_ (fun _ _ q => q.elim)
          refine w_if_eq k42 rfl (fun c => ?_) (fun c => ?_)
          · replace h := if_t c h
            refine w_sg k42 1 (pc' := 42) (ls' := [(0, aR 12 l0), (1, aI (nI 0)), (2, aI l2), (3, aI l3), (4, aI (l4 + (nI 1)))]) (st' := []) (cs' := []) (fun _ => rfl) al0 ?_
            refine w_sg k42 1 (pc' := 5) (ls' := [(0, aR 12 l0), (1, aI (nI 0)), (2, aI l2), (3, aI l3), (4, aI (l4 + (nI 1)))]) (st' := []) (cs' := []) (fun _ => rfl) al0 ?_
            refine w_ls [(0, aR 12 l0), (1, aI (nI 0)), (2, aI l2), (3, aI l3), (4, aI (l4 + (nI 1)))] (lq_c rfl (lq_c rfl (lq_c rfl (lq_c rfl (lq_c rfl lq_n))))) ?_
            obtain rfl := Option.some.inj h
            exact ih3 _ _ _ (lpn_l hn2)
          · replace h := if_f c h
            refine w_sg k42 1 (pc' := 39) (ls' := [(0, aR 12 l0), (1, aI (nI 0)), (2, aI l2), (3, aI (l3 + (nI 1))), (4, aI l4)]) (st' := []) (cs' := []) (fun _ => rfl) al0 ?_
            refine w_sg k42 1 (pc' := 42) (ls' := [(0, aR 12 l0), (1, aI (nI 0)), (2, aI l2), (3, aI (l3 + (nI 1))), (4, aI (l4 + (nI 1)))]) (st' := []) (cs' := []) (fun _ => rfl) al0 ?_
            refine w_sg k42 1 (pc' := 5) (ls' := [(0, aR 12 l0), (1, aI (nI 0)), (2, aI l2), (3, aI (l3 + (nI 1))), (4, aI (l4 + (nI 1)))]) (st' := []) (cs' := []) (fun _ => rfl) al0 ?_
            refine w_ls [(0, aR 12 l0), (1, aI (nI 0)), (2, aI l2), (3, aI (l3 + (nI 1))), (4, aI (l4 + (nI 1)))] (lq_c rfl (lq_c rfl (lq_c rfl (lq_c rfl (lq_c rfl lq_n))))) ?_
            obtain rfl := Option.some.inj h
            exact ih3 _ _ _ (lpn_l hn2)
  refine w_sg k42 2 (pc' := 2) (ls' := [(0, aR 12 i0), (1, aI (nI 0)), (2, aI a2), (3, aI (nI 0))]) (st' := []) (cs' := []) (fun _ => rfl) al0 ?_
  refine w_sg k42 2 (pc' := 5) (ls' := [(0, aR 12 i0), (1, aI (nI 0)), (2, aI a2), (3, aI (nI 0)), (4, aI (nI 0))]) (st' := []) (cs' := []) (fun _ => rfl) al0 ?_
  refine w_ls [(0, aR 12 i0), (1, aI (nI 0)), (2, aI a2), (3, aI (nI 0)), (4, aI (nI 0))] (lq_c rfl (lq_c rfl (lq_c rfl (lq_c rfl (lq_c rfl lq_n))))) ?_
  exact L5_0 _ _ _ _ _ _ h
set_option maxRecDepth 20000 in
set_option maxHeartbeats 4000000 in
/-- BallotBus.asker -/
theorem sn_111 (a1 : Int32) (a2 : Int32) {Y : Sm} (v : (Int32 ⊕ Nat)) (Z : Sm) (h : fn_111 a1 a2 Y = some (v, Z)) : Mt 7 2 111 [aR 0 0, aI a1, aI a2] Y (Pz (fun v => some (aI v)) v Z) (Ez v Z) := by
  refine Mt_of [(0, aR 0 0), (1, aI a1), (2, aI a2)] ?_
  generalize ho : (v, Z) = o at h
  have hv9 : v = o.1 := congrArg Prod.fst ho
  have hZ9 : Z = o.2 := congrArg Prod.snd ho
  clear ho
  subst hv9 hZ9
  unfold fn_111 at h
  refine w_sg k111 2 (pc' := 2) (ls' := [(0, aR 0 0), (1, aI a1), (2, aI a2)]) (st' := [aI a1, aR 0 0]) (cs' := []) (fun _ => rfl) al0 ?_
  obtain ⟨o27, Y1, hv2, ⟨_, ho28, h⟩ | ⟨x26, ho28, h⟩⟩ := bx_some h
  · subst ho28
    refine w_cV0 k111 (sn_154 _ _ _ hv2) rfl (st := []) rfl ?_ (fun _ _ q => q.elim)
    refine w_sg k111 1 (pc' := 6) (ls' := [(0, aR 0 0), (1, aI a1), (2, aI a2)]) (st' := [aI a2]) (cs' := []) (fun _ => rfl) al0 ?_
    by_cases c3 : a2 = (nI 0)
    · replace h := if_t c3 h
      refine w_swAt k111 0 rfl rfl rfl rfl c3 ?_
      obtain ⟨hc13, h⟩ := ck_some h
      refine w_sg k111 6 (pc' := 72) (ls' := [(0, aR 0 0), (1, aI a1), (2, aI a2)]) (st' := [aI (gI Y1.1 29 0 (ix a1))]) (cs' := [vp_in a1 8]) (fun _ => rfl) (al1 (vin hc13)) ?_
      obtain rfl := Option.some.inj h
      exact w_ireturn k111 Pz_l
    replace h := if_f c3 h
    by_cases c4 : a2 = (nI 1)
    · replace h := if_t c4 h
      refine w_swAt k111 1 rfl rfl rfl rfl c4 ?_
      obtain ⟨hc14, h⟩ := ck_some h
      refine w_sg k111 6 (pc' := 85) (ls' := [(0, aR 0 0), (1, aI a1), (2, aI a2)]) (st' := [aI (gI Y1.1 30 0 (ix a1))]) (cs' := [vp_in a1 8]) (fun _ => rfl) (al1 (vin hc14)) ?_
      obtain rfl := Option.some.inj h
      exact w_ireturn k111 Pz_l
    replace h := if_f c4 h
    by_cases c5 : a2 = (nI 2)
    · replace h := if_t c5 h
      refine w_swAt k111 2 rfl rfl rfl rfl c5 ?_
      obtain ⟨hc15, h⟩ := ck_some h
      refine w_sg k111 5 (pc' := 95) (ls' := [(0, aR 0 0), (1, aI a1), (2, aI a2)]) (st' := [aI (gI Y1.1 10 (Y1.2 0) (ix a1))]) (cs' := [vp_in a1 8]) (fun _ => rfl) (al1 (vin hc15)) ?_
      obtain rfl := Option.some.inj h
      exact w_ireturn k111 Pz_l
    replace h := if_f c5 h
    by_cases c6 : a2 = (nI 3)
    · replace h := if_t c6 h
      refine w_swAt k111 3 rfl rfl rfl rfl c6 ?_
      obtain ⟨hc16, h⟩ := ck_some h
      refine w_sg k111 6 (pc' := 108) (ls' := [(0, aR 0 0), (1, aI a1), (2, aI a2)]) (st' := [aI (gI Y1.1 31 0 (ix a1))]) (cs' := [vp_in a1 8]) (fun _ => rfl) (al1 (vin hc16)) ?_
      obtain rfl := Option.some.inj h
      exact w_ireturn k111 Pz_l
    replace h := if_f c6 h
    by_cases c7 : a2 = (nI 4)
    · replace h := if_t c7 h
      refine w_swAt k111 4 rfl rfl rfl rfl c7 ?_
      refine w_sg k111 3 (pc' := 114) (ls' := [(0, aR 0 0), (1, aI a1), (2, aI a2)]) (st' := [aI a1, aR 21 0]) (cs' := []) (fun _ => rfl) al0 ?_
      obtain ⟨v19, Y17, hv18, h⟩ := bd_some h
      refine w_cV1 k111 (sn_73 _ _ _ _ hv18) rfl (st := []) rfl ?_ (fun _ _ q => q.elim)
      refine w_if_eq k111 rfl (fun c => ?_) (fun c => ?_)
      · replace h := if_t c h
        refine w_sg k111 1 (pc' := 125) (ls' := [(0, aR 0 0), (1, aI a1), (2, aI a2)]) (st' := [aI (nI 0)]) (cs' := []) (fun _ => rfl) al0 ?_
        obtain rfl := Option.some.inj h
        exact w_ireturn k111 Pz_l
      · replace h := if_f c h
        refine w_sg k111 2 (pc' := 125) (ls' := [(0, aR 0 0), (1, aI a1), (2, aI a2)]) (st' := [aI (nI 1)]) (cs' := []) (fun _ => rfl) al0 ?_
        obtain rfl := Option.some.inj h
        exact w_ireturn k111 Pz_l
    replace h := if_f c7 h
    by_cases c8 : a2 = (nI 5)
    · replace h := if_t c8 h
      refine w_swAt k111 5 rfl rfl rfl rfl c8 ?_
      refine w_sg k111 4 (pc' := 134) (ls' := [(0, aR 0 0), (1, aI a1), (2, aI a2)]) (st' := [aI a1, aI (gI Y1.1 21 0 3)]) (cs' := []) (fun _ => rfl) al0 ?_
      refine w_icmp_ne k111 rfl (fun c => ?_) (fun c => ?_)
      · replace h := if_f c h
        refine w_sg k111 1 (pc' := 152) (ls' := [(0, aR 0 0), (1, aI a1), (2, aI a2)]) (st' := [aI (nI 0)]) (cs' := []) (fun _ => rfl) al0 ?_
        obtain rfl := Option.some.inj h
        exact w_ireturn k111 Pz_l
      · replace h := if_t c h
        refine w_sg k111 3 (pc' := 144) (ls' := [(0, aR 0 0), (1, aI a1), (2, aI a2)]) (st' := [aI (gI Y1.1 21 0 4)]) (cs' := []) (fun _ => rfl) al0 ?_
        refine w_if_eq k111 rfl (fun c => ?_) (fun c => ?_)
        · replace h := if_t c h
          refine w_sg k111 1 (pc' := 152) (ls' := [(0, aR 0 0), (1, aI a1), (2, aI a2)]) (st' := [aI (nI 0)]) (cs' := []) (fun _ => rfl) al0 ?_
          obtain rfl := Option.some.inj h
          exact w_ireturn k111 Pz_l
        · replace h := if_f c h
          refine w_sg k111 2 (pc' := 152) (ls' := [(0, aR 0 0), (1, aI a1), (2, aI a2)]) (st' := [aI (nI 1)]) (cs' := []) (fun _ => rfl) al0 ?_
          obtain rfl := Option.some.inj h
          exact w_ireturn k111 Pz_l
    replace h := if_f c8 h
    by_cases c9 : a2 = (nI 6)
    · replace h := if_t c9 h
      refine w_swAt k111 6 rfl rfl rfl rfl c9 ?_
      refine w_sg k111 5 (pc' := 162) (ls' := [(0, aR 0 0), (1, aI a1), (2, aI a2)]) (st' := [aI a1, aI (nI 0), aR 12 3]) (cs' := []) (fun _ => rfl) al0 ?_
      obtain ⟨v22, Y20, hv21, h⟩ := bd_some h
      refine w_cV1 k111 (sn_42_12_c0 _ _ _ _ hv21) rfl (st := []) rfl ?_ (fun _ _ q => q.elim)
      obtain rfl := Option.some.inj h
      exact w_ireturn k111 Pz_l
    replace h := if_f c9 h
    by_cases c10 : a2 = (nI 7)
    · replace h := if_t c10 h
      refine w_swAt k111 7 rfl rfl rfl rfl c10 ?_
      obtain ⟨hc23, h⟩ := ck_some h
      refine w_sg k111 6 (pc' := 178) (ls' := [(0, aR 0 0), (1, aI a1), (2, aI a2)]) (st' := [aI (gI Y1.1 32 0 (ix a1))]) (cs' := [vp_in a1 8]) (fun _ => rfl) (al1 (vin hc23)) ?_
      obtain rfl := Option.some.inj h
      exact w_ireturn k111 Pz_l
    replace h := if_f c10 h
    by_cases c11 : a2 = (nI 8)
    · replace h := if_t c11 h
      refine w_swAt k111 8 rfl rfl rfl rfl c11 ?_
      obtain ⟨hc24, h⟩ := ck_some h
      refine w_sg k111 6 (pc' := 191) (ls' := [(0, aR 0 0), (1, aI a1), (2, aI a2)]) (st' := [aI (gI Y1.1 33 0 (ix a1))]) (cs' := [vp_in a1 8]) (fun _ => rfl) (al1 (vin hc24)) ?_
      obtain rfl := Option.some.inj h
      exact w_ireturn k111 Pz_l
    replace h := if_f c11 h
    by_cases c12 : a2 = (nI 9)
    · replace h := if_t c12 h
      refine w_swAt k111 9 rfl rfl rfl rfl c12 ?_
      obtain ⟨hc25, h⟩ := ck_some h
      refine w_sg k111 6 (pc' := 204) (ls' := [(0, aR 0 0), (1, aI a1), (2, aI a2)]) (st' := [aI (gI Y1.1 34 0 (ix a1))]) (cs' := [vp_in a1 8]) (fun _ => rfl) (al1 (vin hc25)) ?_
      obtain rfl := Option.some.inj h
      exact w_ireturn k111 Pz_l
    replace h := if_f c12 h
    refine w_swOut k111 rfl rfl rfl (nsw_s (nsw_s (nsw_s (nsw_s (nsw_s (nsw_s (nsw_s (nsw_s (nsw_s (nsw_s nsw_0 c3) c4) c5) c6) c7) c8) c9) c10) c11) c12) ?_
    obtain rfl := Option.some.inj h
    exact w_throw k111 rfl rfl Ez_r
  · subst ho28
    obtain rfl := Option.some.inj h
    exact w_xcallV k111 (sn_154 _ _ _ hv2) rfl (st := []) rfl Ez_r
set_option maxRecDepth 20000 in
set_option maxHeartbeats 4000000 in
/-- BallotBus.checkKind -/
theorem sn_155 (a1 : Int32) {Y : Sm} (v : (Unit ⊕ Nat)) (Z : Sm) (h : fn_155 a1 Y = some (v, Z)) : Mt 6 1 155 [aR 0 0, aI a1] Y (Pz (fun _ => none) v Z) (Ez v Z) := by
  refine Mt_of [(0, aR 0 0), (1, aI a1)] ?_
  generalize ho : (v, Z) = o at h
  have hv9 : v = o.1 := congrArg Prod.fst ho
  have hZ9 : Z = o.2 := congrArg Prod.snd ho
  clear ho
  subst hv9 hZ9
  unfold fn_155 at h
  refine w_sg k155 1 (pc' := 1) (ls' := [(0, aR 0 0), (1, aI a1)]) (st' := [aI a1]) (cs' := []) (fun _ => rfl) al0 ?_
  refine w_if_lt k155 rfl (fun c => ?_) (fun c => ?_)
  · replace h := if_t c h
    obtain rfl := Option.some.inj h
    exact w_throw k155 rfl rfl Ez_r
  · replace h := if_f c h
    refine w_sg k155 4 (pc' := 12) (ls' := [(0, aR 0 0), (1, aI a1)]) (st' := [aI (gI Y.1 5 (Y.2 0) 0), aI a1]) (cs' := []) (fun _ => rfl) al0 ?_
    refine w_icmp_lt k155 rfl (fun c => ?_) (fun c => ?_)
    · replace h := if_t c h
      obtain rfl := Option.some.inj h
      exact w_return k155 Pz_l
    · replace h := if_f c h
      obtain rfl := Option.some.inj h
      exact w_throw k155 rfl rfl Ez_r
set_option maxRecDepth 20000 in
set_option maxHeartbeats 4000000 in
/-- BallotBus$Requests.waitingWith -/
theorem sn_42_12_c1 (i0 : Nat) (a2 : Int32) {Y : Sm} (v : Int32) (Z : Sm) (h : fn_42_12_c1 i0 a2 Y = some (v, Z)) : Mt 5 0 42 [aR 12 i0, aI (nI 1), aI a2] Y (Rt (some (aI v)) Z) nX := by
  refine Mt_of [(0, aR 12 i0), (1, aI (nI 1)), (2, aI a2)] ?_
  generalize ho : (v, Z) = o at h
  have hv9 : v = o.1 := congrArg Prod.fst ho
  have hZ9 : Z = o.2 := congrArg Prod.snd ho
  clear ho
  subst hv9 hZ9
  unfold fn_42_12_c1 at h
  have L5_0 : ∀ (l0 : Nat) (l2 : Int32) (n : Nat) (l3 : Int32) (l4 : Int32) (Y : Sm), lp (fun s => fn_42_12_c1_L5 l0 l2 s.1 s.2.1 s.2.2) n (l3, l4, Y) = some o → Wm 5 0 42 0 5 [(0, aR 12 l0), (1, aI (nI 1)), (2, aI l2), (3, aI l3), (4, aI l4)] [] Y (Rt (some (aI o.1)) o.2) nX := by
    intro l0 l2 n
    induction n with
    | zero => intro l3 l4 Y h; cases h
    | succ n ih3 =>
      intro l3 l4 Y h
      obtain ⟨q1, h, hn2⟩ := lp_succ h
      replace h : fn_42_12_c1_L5 l0 l2 l3 l4 Y = some q1 := h
      unfold fn_42_12_c1_L5 at h
      refine w_sg k42 3 (pc' := 11) (ls' := [(0, aR 12 l0), (1, aI (nI 1)), (2, aI l2), (3, aI l3), (4, aI l4)]) (st' := [aI (gI Y.1 12 l0 1), aI l4]) (cs' := []) (fun _ => rfl) al0 ?_
      refine w_icmp_ge k42 rfl (fun c => ?_) (fun c => ?_)
      · replace h := if_t c h
        refine w_sg k42 1 (pc' := 46) (ls' := [(0, aR 12 l0), (1, aI (nI 1)), (2, aI l2), (3, aI l3), (4, aI l4)]) (st' := [aI l3]) (cs' := []) (fun _ => rfl) al0 ?_
        obtain rfl := Option.some.inj h
        obtain rfl := lpn_r hn2
        exact w_ireturn k42 ⟨rfl, rfl⟩
      · replace h := if_f c h
        refine w_sg k42 4 (pc' := 20) (ls' := [(0, aR 12 l0), (1, aI (nI 1)), (2, aI l2), (3, aI l3), (4, aI l4)]) (st' := [aR 15 l0]) (cs' := [vp_in (nI 1) 6]) (fun _ => rfl) (al1 (vin rfl)) ?_
        obtain ⟨hc4, h⟩ := ck_some h
        refine w_sg k42 3 (pc' := 24) (ls' := [(0, aR 12 l0), (1, aI (nI 1)), (2, aI l2), (3, aI l3), (4, aI l4)]) (st' := [aI l2, aI (gI Y.1 15 l0 (ix l4))]) (cs' := [vp_in l4 40]) (fun _ => rfl) (al1 (vin hc4)) ?_
        refine w_icmp_ne k42 rfl (fun c => ?_) (fun c => ?_)
        · replace h := if_f c h
          refine w_sg k42 1 (pc' := 42) (ls' := [(0, aR 12 l0), (1, aI (nI 1)), (2, aI l2), (3, aI l3), (4, aI (l4 + (nI 1)))]) (st' := []) (cs' := []) (fun _ => rfl) al0 ?_
          refine w_sg k42 1 (pc' := 5) (ls' := [(0, aR 12 l0), (1, aI (nI 1)), (2, aI l2), (3, aI l3), (4, aI (l4 + (nI 1)))]) (st' := []) (cs' := []) (fun _ => rfl) al0 ?_
          refine w_ls [(0, aR 12 l0), (1, aI (nI 1)), (2, aI l2), (3, aI l3), (4, aI (l4 + (nI 1)))] (lq_c rfl (lq_c rfl (lq_c rfl (lq_c rfl (lq_c rfl lq_n))))) ?_
          obtain rfl := Option.some.inj h
          exact ih3 _ _ _ (lpn_l hn2)
        · replace h := if_t c h
          refine w_sg k42 2 (pc' := 30) (ls' := [(0, aR 12 l0), (1, aI (nI 1)), (2, aI l2), (3, aI l3), (4, aI l4)]) (st' := [aI l4, aR 12 l0]) (cs' := []) (fun _ => rfl) al0 ?_
          obtain ⟨v7, Y5, hv6, h⟩ := bd_some h
          refine w_cV1 k42 (sn_40 _ _ _ _ hv6) rfl (st := []) rfl ?_ (fun _ _ q => q.elim)
          refine w_if_eq k42 rfl (fun c => ?_) (fun c => ?_)
          · replace h := if_t c h
            refine w_sg k42 1 (pc' := 42) (ls' := [(0, aR 12 l0), (1, aI (nI 1)), (2, aI l2), (3, aI l3), (4, aI (l4 + (nI 1)))]) (st' := []) (cs' := []) (fun _ => rfl) al0 ?_
            refine w_sg k42 1 (pc' := 5) (ls' := [(0, aR 12 l0), (1, aI (nI 1)), (2, aI l2), (3, aI l3), (4, aI (l4 + (nI 1)))]) (st' := []) (cs' := []) (fun _ => rfl) al0 ?_
            refine w_ls [(0, aR 12 l0), (1, aI (nI 1)), (2, aI l2), (3, aI l3), (4, aI (l4 + (nI 1)))] (lq_c rfl (lq_c rfl (lq_c rfl (lq_c rfl (lq_c rfl lq_n))))) ?_
            obtain rfl := Option.some.inj h
            exact ih3 _ _ _ (lpn_l hn2)
          · replace h := if_f c h
            refine w_sg k42 1 (pc' := 39) (ls' := [(0, aR 12 l0), (1, aI (nI 1)), (2, aI l2), (3, aI (l3 + (nI 1))), (4, aI l4)]) (st' := []) (cs' := []) (fun _ => rfl) al0 ?_
            refine w_sg k42 1 (pc' := 42) (ls' := [(0, aR 12 l0), (1, aI (nI 1)), (2, aI l2), (3, aI (l3 + (nI 1))), (4, aI (l4 + (nI 1)))]) (st' := []) (cs' := []) (fun _ => rfl) al0 ?_
            refine w_sg k42 1 (pc' := 5) (ls' := [(0, aR 12 l0), (1, aI (nI 1)), (2, aI l2), (3, aI (l3 + (nI 1))), (4, aI (l4 + (nI 1)))]) (st' := []) (cs' := []) (fun _ => rfl) al0 ?_
            refine w_ls [(0, aR 12 l0), (1, aI (nI 1)), (2, aI l2), (3, aI (l3 + (nI 1))), (4, aI (l4 + (nI 1)))] (lq_c rfl (lq_c rfl (lq_c rfl (lq_c rfl (lq_c rfl lq_n))))) ?_
            obtain rfl := Option.some.inj h
            exact ih3 _ _ _ (lpn_l hn2)
  refine w_sg k42 2 (pc' := 2) (ls' := [(0, aR 12 i0), (1, aI (nI 1)), (2, aI a2), (3, aI (nI 0))]) (st' := []) (cs' := []) (fun _ => rfl) al0 ?_
  refine w_sg k42 2 (pc' := 5) (ls' := [(0, aR 12 i0), (1, aI (nI 1)), (2, aI a2), (3, aI (nI 0)), (4, aI (nI 0))]) (st' := []) (cs' := []) (fun _ => rfl) al0 ?_
  refine w_ls [(0, aR 12 i0), (1, aI (nI 1)), (2, aI a2), (3, aI (nI 0)), (4, aI (nI 0))] (lq_c rfl (lq_c rfl (lq_c rfl (lq_c rfl (lq_c rfl lq_n))))) ?_
  exact L5_0 _ _ _ _ _ _ h
set_option maxRecDepth 20000 in
set_option maxHeartbeats 4000000 in
/-- BallotBus$Rows.placeOf -/
theorem sn_45_22 (i0 : Nat) (a1 : Int32) (a2 : Int32) {Y : Sm} (v : Int32) (Z : Sm) (h : fn_45_22 i0 a1 a2 Y = some (v, Z)) : Mt 4 0 45 [aR 22 i0, aI a1, aI a2] Y (Rt (some (aI v)) Z) nX := by
  refine Mt_of [(0, aR 22 i0), (1, aI a1), (2, aI a2)] ?_
  generalize ho : (v, Z) = o at h
  have hv9 : v = o.1 := congrArg Prod.fst ho
  have hZ9 : Z = o.2 := congrArg Prod.snd ho
  clear ho
  subst hv9 hZ9
  unfold fn_45_22 at h
  have L2_0 : ∀ (l0 : Nat) (l1 : Int32) (l2 : Int32) (n : Nat) (l3 : Int32) (Y : Sm), lp (fun s => fn_45_22_L2 l0 l1 l2 s.1 s.2) n (l3, Y) = some o → Wm 4 0 45 0 2 [(0, aR 22 l0), (1, aI l1), (2, aI l2), (3, aI l3)] [] Y (Rt (some (aI o.1)) o.2) nX := by
    intro l0 l1 l2 n
    induction n with
    | zero => intro l3 Y h; cases h
    | succ n ih3 =>
      intro l3 Y h
      obtain ⟨q1, h, hn2⟩ := lp_succ h
      replace h : fn_45_22_L2 l0 l1 l2 l3 Y = some q1 := h
      unfold fn_45_22_L2 at h
      refine w_sg k45 2 (pc' := 4) (ls' := [(0, aR 22 l0), (1, aI l1), (2, aI l2), (3, aI l3)]) (st' := [aI l1, aI l3]) (cs' := []) (fun _ => rfl) al0 ?_
      refine w_icmp_ge k45 rfl (fun c => ?_) (fun c => ?_)
      · replace h := if_t c h
        refine w_sg k45 1 (pc' := 29) (ls' := [(0, aR 22 l0), (1, aI l1), (2, aI l2), (3, aI l3)]) (st' := [aI (-1 : Int32)]) (cs' := []) (fun _ => rfl) al0 ?_
        obtain rfl := Option.some.inj h
        obtain rfl := lpn_r hn2
        exact w_ireturn k45 ⟨rfl, rfl⟩
      · replace h := if_f c h
        refine w_sg k45 3 (pc' := 10) (ls' := [(0, aR 22 l0), (1, aI l1), (2, aI l2), (3, aI l3)]) (st' := [aI (nI 5), aI l3]) (cs' := []) (fun _ => rfl) al0 ?_
        refine w_icmp_ge k45 rfl (fun c => ?_) (fun c => ?_)
        · replace h := if_t c h
          refine w_sg k45 1 (pc' := 29) (ls' := [(0, aR 22 l0), (1, aI l1), (2, aI l2), (3, aI l3)]) (st' := [aI (-1 : Int32)]) (cs' := []) (fun _ => rfl) al0 ?_
          obtain rfl := Option.some.inj h
          obtain rfl := lpn_r hn2
          exact w_ireturn k45 ⟨rfl, rfl⟩
        · replace h := if_f c h
          obtain ⟨hc4, h⟩ := ck_some h
          refine w_sg k45 4 (pc' := 17) (ls' := [(0, aR 22 l0), (1, aI l1), (2, aI l2), (3, aI l3)]) (st' := [aI l2, aI (gI Y.1 22 l0 (ix l3))]) (cs' := [vp_in l3 5]) (fun _ => rfl) (al1 (vin hc4)) ?_
          refine w_icmp_ne k45 rfl (fun c => ?_) (fun c => ?_)
          · replace h := if_f c h
            refine w_sg k45 1 (pc' := 25) (ls' := [(0, aR 22 l0), (1, aI l1), (2, aI l2), (3, aI (l3 + (nI 1)))]) (st' := []) (cs' := []) (fun _ => rfl) al0 ?_
            refine w_sg k45 1 (pc' := 2) (ls' := [(0, aR 22 l0), (1, aI l1), (2, aI l2), (3, aI (l3 + (nI 1)))]) (st' := []) (cs' := []) (fun _ => rfl) al0 ?_
            refine w_ls [(0, aR 22 l0), (1, aI l1), (2, aI l2), (3, aI (l3 + (nI 1)))] (lq_c rfl (lq_c rfl (lq_c rfl (lq_c rfl lq_n)))) ?_
            obtain rfl := Option.some.inj h
            exact ih3 _ _ (lpn_l hn2)
          · replace h := if_t c h
            refine w_sg k45 1 (pc' := 21) (ls' := [(0, aR 22 l0), (1, aI l1), (2, aI l2), (3, aI l3)]) (st' := [aI l3]) (cs' := []) (fun _ => rfl) al0 ?_
            obtain rfl := Option.some.inj h
            obtain rfl := lpn_r hn2
            exact w_ireturn k45 ⟨rfl, rfl⟩
  refine w_sg k45 2 (pc' := 2) (ls' := [(0, aR 22 i0), (1, aI a1), (2, aI a2), (3, aI (nI 0))]) (st' := []) (cs' := []) (fun _ => rfl) al0 ?_
  refine w_ls [(0, aR 22 i0), (1, aI a1), (2, aI a2), (3, aI (nI 0))] (lq_c rfl (lq_c rfl (lq_c rfl (lq_c rfl lq_n)))) ?_
  exact L2_0 _ _ _ _ _ _ h
set_option maxRecDepth 20000 in
set_option maxHeartbeats 4000000 in
/-- BallotBus$State.isVetoed -/
theorem sn_74 (i0 : Nat) (a1 : Int32) {Y : Sm} (v : Int32) (Z : Sm) (h : fn_74 i0 a1 Y = some (v, Z)) : Mt 4 0 74 [aR 21 i0, aI a1] Y (Rt (some (aI v)) Z) nX := by
  refine Mt_of [(0, aR 21 i0), (1, aI a1)] ?_
  generalize ho : (v, Z) = o at h
  have hv9 : v = o.1 := congrArg Prod.fst ho
  have hZ9 : Z = o.2 := congrArg Prod.snd ho
  clear ho
  subst hv9 hZ9
  unfold fn_74 at h
  refine w_sg k74 6 (pc' := 8) (ls' := [(0, aR 21 i0), (1, aI a1)]) (st' := [aI ((gI Y.1 21 i0 5) &&& ((nI 1) <<< (a1 &&& 31)))]) (cs' := []) (fun _ => rfl) al0 ?_
  refine w_if_eq k74 rfl (fun c => ?_) (fun c => ?_)
  · replace h := if_t c h
    refine w_sg k74 1 (pc' := 16) (ls' := [(0, aR 21 i0), (1, aI a1)]) (st' := [aI (nI 0)]) (cs' := []) (fun _ => rfl) al0 ?_
    obtain rfl := Option.some.inj h
    exact w_zreturn k74 (Or.inl rfl) ⟨rfl, rfl⟩
  · replace h := if_f c h
    refine w_sg k74 2 (pc' := 16) (ls' := [(0, aR 21 i0), (1, aI a1)]) (st' := [aI (nI 1)]) (cs' := []) (fun _ => rfl) al0 ?_
    obtain rfl := Option.some.inj h
    exact w_zreturn k74 (Or.inr rfl) ⟨rfl, rfl⟩
set_option maxRecDepth 20000 in
set_option maxHeartbeats 4000000 in
/-- BallotBus$State.isInLine -/
theorem sn_79 (i0 : Nat) (a1 : Int32) (a2 : Int32) {Y : Sm} (v : Int32) (Z : Sm) (h : fn_79 i0 a1 a2 Y = some (v, Z)) : Mt 5 0 79 [aR 21 i0, aI a1, aI a2] Y (Rt (some (aI v)) Z) nX := by
  refine Mt_of [(0, aR 21 i0), (1, aI a1), (2, aI a2)] ?_
  generalize ho : (v, Z) = o at h
  have hv9 : v = o.1 := congrArg Prod.fst ho
  have hZ9 : Z = o.2 := congrArg Prod.snd ho
  clear ho
  subst hv9 hZ9
  unfold fn_79 at h
  refine w_sg k79 5 (pc' := 9) (ls' := [(0, aR 21 i0), (1, aI a1), (2, aI a2)]) (st' := [aR 15 (i0 + 3)]) (cs' := [vp_in (nI 1) 6]) (fun _ => rfl) (al1 (vin rfl)) ?_
  obtain ⟨hc1, h⟩ := ck_some h
  refine w_sg k79 3 (pc' := 12) (ls' := [(0, aR 21 i0), (1, aI a1), (2, aI a2)]) (st' := [aI a2, aI (gI Y.1 15 (i0 + 3) (ix a1))]) (cs' := [vp_in a1 40]) (fun _ => rfl) (al1 (vin hc1)) ?_
  refine w_icmp_ne k79 rfl (fun c => ?_) (fun c => ?_)
  · replace h := if_f c h
    refine w_sg k79 1 (pc' := 31) (ls' := [(0, aR 21 i0), (1, aI a1), (2, aI a2)]) (st' := [aI (nI 0)]) (cs' := []) (fun _ => rfl) al0 ?_
    obtain rfl := Option.some.inj h
    exact w_zreturn k79 (Or.inl rfl) ⟨rfl, rfl⟩
  · replace h := if_t c h
    refine w_sg k79 3 (pc' := 20) (ls' := [(0, aR 21 i0), (1, aI a1), (2, aI a2)]) (st' := [aI a1, aR 12 (i0 + 3)]) (cs' := []) (fun _ => rfl) al0 ?_
    obtain ⟨v4, Y2, hv3, h⟩ := bd_some h
    refine w_cV1 k79 (sn_40 _ _ _ _ hv3) rfl (st := []) rfl ?_ (fun _ _ q => q.elim)
    refine w_if_eq k79 rfl (fun c => ?_) (fun c => ?_)
    · replace h := if_t c h
      refine w_sg k79 1 (pc' := 31) (ls' := [(0, aR 21 i0), (1, aI a1), (2, aI a2)]) (st' := [aI (nI 0)]) (cs' := []) (fun _ => rfl) al0 ?_
      obtain rfl := Option.some.inj h
      exact w_zreturn k79 (Or.inl rfl) ⟨rfl, rfl⟩
    · replace h := if_f c h
      refine w_sg k79 2 (pc' := 31) (ls' := [(0, aR 21 i0), (1, aI a1), (2, aI a2)]) (st' := [aI (nI 1)]) (cs' := []) (fun _ => rfl) al0 ?_
      obtain rfl := Option.some.inj h
      exact w_zreturn k79 (Or.inr rfl) ⟨rfl, rfl⟩
set_option maxRecDepth 20000 in
set_option maxHeartbeats 4000000 in
/-- BallotBus$State.rankInLine -/
theorem sn_80 (i0 : Nat) (a1 : Int32) {Y : Sm} (v : Int32) (Z : Sm) (h : fn_80 i0 a1 Y = some (v, Z)) : Mt 4 0 80 [aR 21 i0, aI a1] Y (Rt (some (aI v)) Z) nX := by
  refine Mt_of [(0, aR 21 i0), (1, aI a1)] ?_
  generalize ho : (v, Z) = o at h
  have hv9 : v = o.1 := congrArg Prod.fst ho
  have hZ9 : Z = o.2 := congrArg Prod.snd ho
  clear ho
  subst hv9 hZ9
  unfold fn_80 at h
  refine w_sg k80 5 (pc' := 9) (ls' := [(0, aR 21 i0), (1, aI a1)]) (st' := [aR 14 (i0 + 3)]) (cs' := [vp_in (nI 0) 6]) (fun _ => rfl) (al1 (vin rfl)) ?_
  obtain ⟨hc1, h⟩ := ck_some h
  refine w_sg k80 3 (pc' := 12) (ls' := [(0, aR 21 i0), (1, aI a1), (2, aI (gI Y.1 14 (i0 + 3) (ix a1)))]) (st' := []) (cs' := [vp_in a1 40]) (fun _ => rfl) (al1 (vin hc1)) ?_
  refine w_sg k80 7 (pc' := 25) (ls' := [(0, aR 21 i0), (1, aI a1), (2, aI (gI Y.1 14 (i0 + 3) (ix a1)))]) (st' := [aR 15 (i0 + 3), aR 23 i0]) (cs' := [vp_in (nI 1) 6]) (fun _ => rfl) (al1 (vin rfl)) ?_
  obtain ⟨hc2, h⟩ := ck_some h
  refine w_sg k80 3 (pc' := 28) (ls' := [(0, aR 21 i0), (1, aI a1), (2, aI (gI Y.1 14 (i0 + 3) (ix a1)))]) (st' := [aI (gI Y.1 23 i0 (ix (gI Y.1 15 (i0 + 3) (ix a1))))]) (cs' := [vp_in a1 40, vp_in (gI Y.1 15 (i0 + 3) (ix a1)) 5]) (fun _ => rfl) (al2 (vin hc1) (al1 (vin hc2))) ?_
  by_cases c3 : (gI Y.1 23 i0 (ix (gI Y.1 15 (i0 + 3) (ix a1)))) = (nI 1)
  · replace h := if_t c3 h
    refine w_swAt k80 0 rfl rfl rfl rfl c3 ?_
    refine w_sg k80 5 (pc' := 65) (ls' := [(0, aR 21 i0), (1, aI a1), (2, aI (gI Y.1 14 (i0 + 3) (ix a1)))]) (st' := [aR 16 (i0 + 3)]) (cs' := [vp_in (nI 2) 6]) (fun _ => rfl) (al1 (vin rfl)) ?_
    refine w_sg k80 2 (pc' := 67) (ls' := [(0, aR 21 i0), (1, aI a1), (2, aI (gI Y.1 14 (i0 + 3) (ix a1)))]) (st' := [aI (gI Y.1 16 (i0 + 3) (ix a1))]) (cs' := [vp_in a1 40]) (fun _ => rfl) (al1 (vin hc1)) ?_
    obtain rfl := Option.some.inj h
    exact w_ireturn k80 ⟨rfl, rfl⟩
  replace h := if_f c3 h
  by_cases c4 : (gI Y.1 23 i0 (ix (gI Y.1 15 (i0 + 3) (ix a1)))) = (nI 2)
  · replace h := if_t c4 h
    refine w_swAt k80 1 rfl rfl rfl rfl c4 ?_
    obtain ⟨hc6, h⟩ := ck_some h
    refine w_sg k80 6 (pc' := 78) (ls' := [(0, aR 21 i0), (1, aI a1), (2, aI (gI Y.1 14 (i0 + 3) (ix a1)))]) (st' := [aI (-(gI Y.1 29 i0 (ix (gI Y.1 14 (i0 + 3) (ix a1)))))]) (cs' := [vp_in (gI Y.1 14 (i0 + 3) (ix a1)) 8]) (fun _ => rfl) (al1 (vin hc6)) ?_
    obtain rfl := Option.some.inj h
    exact w_ireturn k80 ⟨rfl, rfl⟩
  replace h := if_f c4 h
  by_cases c5 : (gI Y.1 23 i0 (ix (gI Y.1 15 (i0 + 3) (ix a1)))) = (nI 3)
  · replace h := if_t c5 h
    refine w_swAt k80 2 rfl rfl rfl rfl c5 ?_
    obtain ⟨hc7, h⟩ := ck_some h
    refine w_sg k80 6 (pc' := 89) (ls' := [(0, aR 21 i0), (1, aI a1), (2, aI (gI Y.1 14 (i0 + 3) (ix a1)))]) (st' := [aI (-(gI Y.1 30 i0 (ix (gI Y.1 14 (i0 + 3) (ix a1)))))]) (cs' := [vp_in (gI Y.1 14 (i0 + 3) (ix a1)) 8]) (fun _ => rfl) (al1 (vin hc7)) ?_
    obtain rfl := Option.some.inj h
    exact w_ireturn k80 ⟨rfl, rfl⟩
  replace h := if_f c5 h
  refine w_swOut k80 rfl rfl rfl (nsw_s (nsw_s (nsw_s nsw_0 c3) c4) c5) ?_
  refine w_sg k80 1 (pc' := 91) (ls' := [(0, aR 21 i0), (1, aI a1), (2, aI (gI Y.1 14 (i0 + 3) (ix a1)))]) (st' := [aI (nI 0)]) (cs' := []) (fun _ => rfl) al0 ?_
  obtain rfl := Option.some.inj h
  exact w_ireturn k80 ⟨rfl, rfl⟩
set_option maxRecDepth 20000 in
set_option maxHeartbeats 4000000 in
/-- BallotBus$State.firstOf -/
theorem sn_76 (i0 : Nat) (a1 : Int32) {Y : Sm} (v : Int32) (Z : Sm) (h : fn_76 i0 a1 Y = some (v, Z)) : Mt 6 0 76 [aR 21 i0, aI a1] Y (Rt (some (aI v)) Z) nX := by
  refine Mt_of [(0, aR 21 i0), (1, aI a1)] ?_
  generalize ho : (v, Z) = o at h
  have hv9 : v = o.1 := congrArg Prod.fst ho
  have hZ9 : Z = o.2 := congrArg Prod.snd ho
  clear ho
  subst hv9 hZ9
  unfold fn_76 at h
  have L4_0 : ∀ (l0 : Nat) (l1 : Int32) (n : Nat) (l2 : Int32) (l3 : Int32) (Y : Sm), lp (fun s => fn_76_L4 l0 l1 s.1 s.2.1 s.2.2) n (l2, l3, Y) = some o → Wm 6 0 76 0 4 [(0, aR 21 l0), (1, aI l1), (2, aI l2), (3, aI l3)] [] Y (Rt (some (aI o.1)) o.2) nX := by
    intro l0 l1 n
    induction n with
    | zero => intro l2 l3 Y h; cases h
    | succ n ih3 =>
      intro l2 l3 Y h
      obtain ⟨q1, h, hn2⟩ := lp_succ h
      replace h : fn_76_L4 l0 l1 l2 l3 Y = some q1 := h
      unfold fn_76_L4 at h
      refine w_sg k76 4 (pc' := 12) (ls' := [(0, aR 21 l0), (1, aI l1), (2, aI l2), (3, aI l3)]) (st' := [aI (gI Y.1 12 (l0 + 3) 1), aI l3]) (cs' := []) (fun _ => rfl) al0 ?_
      refine w_icmp_ge k76 rfl (fun c => ?_) (fun c => ?_)
      · replace h := if_t c h
        refine w_sg k76 1 (pc' := 51) (ls' := [(0, aR 21 l0), (1, aI l1), (2, aI l2), (3, aI l3)]) (st' := [aI l2]) (cs' := []) (fun _ => rfl) al0 ?_
        obtain rfl := Option.some.inj h
        obtain rfl := lpn_r hn2
        exact w_ireturn k76 ⟨rfl, rfl⟩
      · replace h := if_f c h
        refine w_sg k76 3 (pc' := 18) (ls' := [(0, aR 21 l0), (1, aI l1), (2, aI l2), (3, aI l3)]) (st' := [aI l1, aI l3, aR 21 l0]) (cs' := []) (fun _ => rfl) al0 ?_
        obtain ⟨v6, Y4, hv5, h⟩ := bd_some h
        refine w_cV1 k76 (sn_79 _ _ _ _ _ hv5) rfl (st := []) rfl ?_ (fun _ _ q => q.elim)
        refine w_if_eq k76 rfl (fun c => ?_) (fun c => ?_)
        · replace h := if_t c h
          refine w_sg k76 1 (pc' := 47) (ls' := [(0, aR 21 l0), (1, aI l1), (2, aI l2), (3, aI (l3 + (nI 1)))]) (st' := []) (cs' := []) (fun _ => rfl) al0 ?_
          refine w_sg k76 1 (pc' := 4) (ls' := [(0, aR 21 l0), (1, aI l1), (2, aI l2), (3, aI (l3 + (nI 1)))]) (st' := []) (cs' := []) (fun _ => rfl) al0 ?_
          refine w_ls [(0, aR 21 l0), (1, aI l1), (2, aI l2), (3, aI (l3 + (nI 1)))] (lq_c rfl (lq_c rfl (lq_c rfl (lq_c rfl lq_n)))) ?_
          obtain rfl := Option.some.inj h
          exact ih3 _ _ _ (lpn_l hn2)
        · replace h := if_f c h
          refine w_sg k76 2 (pc' := 26) (ls' := [(0, aR 21 l0), (1, aI l1), (2, aI l2), (3, aI l3)]) (st' := [aI (-1 : Int32), aI l2]) (cs' := []) (fun _ => rfl) al0 ?_
          refine w_icmp_eq k76 rfl (fun c => ?_) (fun c => ?_)
          · replace h := if_t c h
            refine w_sg k76 2 (pc' := 44) (ls' := [(0, aR 21 l0), (1, aI l1), (2, aI l3), (3, aI l3)]) (st' := []) (cs' := []) (fun _ => rfl) al0 ?_
            refine w_sg k76 1 (pc' := 47) (ls' := [(0, aR 21 l0), (1, aI l1), (2, aI l3), (3, aI (l3 + (nI 1)))]) (st' := []) (cs' := []) (fun _ => rfl) al0 ?_
            refine w_sg k76 1 (pc' := 4) (ls' := [(0, aR 21 l0), (1, aI l1), (2, aI l3), (3, aI (l3 + (nI 1)))]) (st' := []) (cs' := []) (fun _ => rfl) al0 ?_
            refine w_ls [(0, aR 21 l0), (1, aI l1), (2, aI l3), (3, aI (l3 + (nI 1)))] (lq_c rfl (lq_c rfl (lq_c rfl (lq_c rfl lq_n)))) ?_
            obtain rfl := Option.some.inj h
            exact ih3 _ _ _ (lpn_l hn2)
          · replace h := if_f c h
            refine w_sg k76 2 (pc' := 31) (ls' := [(0, aR 21 l0), (1, aI l1), (2, aI l2), (3, aI l3)]) (st' := [aI l3, aR 21 l0]) (cs' := []) (fun _ => rfl) al0 ?_
            obtain ⟨v9, Y7, hv8, h⟩ := bd_some h
            refine w_cV1 k76 (sn_80 _ _ _ _ hv8) rfl (st := []) rfl ?_ (fun _ _ q => q.elim)
            refine w_sg k76 2 (pc' := 36) (ls' := [(0, aR 21 l0), (1, aI l1), (2, aI l2), (3, aI l3)]) (st' := [aI l2, aR 21 l0, aI v9]) (cs' := []) (fun _ => rfl) al0 ?_
            obtain ⟨v12, Y10, hv11, h⟩ := bd_some h
            refine w_cV1 k76 (sn_80 _ _ _ _ hv11) rfl (st := [aI v9]) rfl ?_ (fun _ _ q => q.elim)
            refine w_icmp_ge k76 rfl (fun c => ?_) (fun c => ?_)
            · replace h := if_t c h
              refine w_sg k76 1 (pc' := 47) (ls' := [(0, aR 21 l0), (1, aI l1), (2, aI l2), (3, aI (l3 + (nI 1)))]) (st' := []) (cs' := []) (fun _ => rfl) al0 ?_
              refine w_sg k76 1 (pc' := 4) (ls' := [(0, aR 21 l0), (1, aI l1), (2, aI l2), (3, aI (l3 + (nI 1)))]) (st' := []) (cs' := []) (fun _ => rfl) al0 ?_
              refine w_ls [(0, aR 21 l0), (1, aI l1), (2, aI l2), (3, aI (l3 + (nI 1)))] (lq_c rfl (lq_c rfl (lq_c rfl (lq_c rfl lq_n)))) ?_
              obtain rfl := Option.some.inj h
              exact ih3 _ _ _ (lpn_l hn2)
            · replace h := if_f c h
              refine w_sg k76 2 (pc' := 44) (ls' := [(0, aR 21 l0), (1, aI l1), (2, aI l3), (3, aI l3)]) (st' := []) (cs' := []) (fun _ => rfl) al0 ?_
              refine w_sg k76 1 (pc' := 47) (ls' := [(0, aR 21 l0), (1, aI l1), (2, aI l3), (3, aI (l3 + (nI 1)))]) (st' := []) (cs' := []) (fun _ => rfl) al0 ?_
              refine w_sg k76 1 (pc' := 4) (ls' := [(0, aR 21 l0), (1, aI l1), (2, aI l3), (3, aI (l3 + (nI 1)))]) (st' := []) (cs' := []) (fun _ => rfl) al0 ?_
              refine w_ls [(0, aR 21 l0), (1, aI l1), (2, aI l3), (3, aI (l3 + (nI 1)))] (lq_c rfl (lq_c rfl (lq_c rfl (lq_c rfl lq_n)))) ?_
              obtain rfl := Option.some.inj h
              exact ih3 _ _ _ (lpn_l hn2)
  refine w_sg k76 2 (pc' := 2) (ls' := [(0, aR 21 i0), (1, aI a1), (2, aI (-1 : Int32))]) (st' := []) (cs' := []) (fun _ => rfl) al0 ?_
  refine w_sg k76 2 (pc' := 4) (ls' := [(0, aR 21 i0), (1, aI a1), (2, aI (-1 : Int32)), (3, aI (nI 0))]) (st' := []) (cs' := []) (fun _ => rfl) al0 ?_
  refine w_ls [(0, aR 21 i0), (1, aI a1), (2, aI (-1 : Int32)), (3, aI (nI 0))] (lq_c rfl (lq_c rfl (lq_c rfl (lq_c rfl lq_n)))) ?_
  exact L4_0 _ _ _ _ _ _ h
set_option maxRecDepth 20000 in
set_option maxHeartbeats 4000000 in
/-- BallotBus$Requests.serialAt -/
theorem sn_39 (i0 : Nat) (a1 : Int32) {Y : Sm} (v : Int32) (Z : Sm) (h : fn_39 i0 a1 Y = some (v, Z)) : Mt 4 0 39 [aR 12 i0, aI a1] Y (Rt (some (aI v)) Z) nX := by
  refine Mt_of [(0, aR 12 i0), (1, aI a1)] ?_
  generalize ho : (v, Z) = o at h
  have hv9 : v = o.1 := congrArg Prod.fst ho
  have hZ9 : Z = o.2 := congrArg Prod.snd ho
  clear ho
  subst hv9 hZ9
  unfold fn_39 at h
  refine w_sg k39 1 (pc' := 1) (ls' := [(0, aR 12 i0), (1, aI a1)]) (st' := [aI a1]) (cs' := []) (fun _ => rfl) al0 ?_
  refine w_if_lt k39 rfl (fun c => ?_) (fun c => ?_)
  · replace h := if_t c h
    refine w_sg k39 2 (pc' := 24) (ls' := [(0, aR 12 i0), (1, aI a1)]) (st' := [aI (-1 : Int32)]) (cs' := []) (fun _ => rfl) al0 ?_
    obtain rfl := Option.some.inj h
    exact w_ireturn k39 ⟨rfl, rfl⟩
  · replace h := if_f c h
    refine w_sg k39 3 (pc' := 9) (ls' := [(0, aR 12 i0), (1, aI a1)]) (st' := [aI (gI Y.1 12 i0 1), aI a1]) (cs' := []) (fun _ => rfl) al0 ?_
    refine w_icmp_lt k39 rfl (fun c => ?_) (fun c => ?_)
    · replace h := if_t c h
      refine w_sg k39 4 (pc' := 22) (ls' := [(0, aR 12 i0), (1, aI a1)]) (st' := [aR 19 i0]) (cs' := [vp_in (nI 5) 6]) (fun _ => rfl) (al1 (vin rfl)) ?_
      obtain ⟨hc1, h⟩ := ck_some h
      refine w_sg k39 2 (pc' := 24) (ls' := [(0, aR 12 i0), (1, aI a1)]) (st' := [aI (gI Y.1 19 i0 (ix a1))]) (cs' := [vp_in a1 40]) (fun _ => rfl) (al1 (vin hc1)) ?_
      obtain rfl := Option.some.inj h
      exact w_ireturn k39 ⟨rfl, rfl⟩
    · replace h := if_f c h
      refine w_sg k39 2 (pc' := 24) (ls' := [(0, aR 12 i0), (1, aI a1)]) (st' := [aI (-1 : Int32)]) (cs' := []) (fun _ => rfl) al0 ?_
      obtain rfl := Option.some.inj h
      exact w_ireturn k39 ⟨rfl, rfl⟩
set_option maxRecDepth 20000 in
set_option maxHeartbeats 4000000 in
/-- BallotBus.kind -/
theorem sn_112 (a1 : Int32) (a2 : Int32) {Y : Sm} (v : (Int32 ⊕ Nat)) (Z : Sm) (h : fn_112 a1 a2 Y = some (v, Z)) : Mt 7 2 112 [aR 0 0, aI a1, aI a2] Y (Pz (fun v => some (aI v)) v Z) (Ez v Z) := by
  refine Mt_of [(0, aR 0 0), (1, aI a1), (2, aI a2)] ?_
  generalize ho : (v, Z) = o at h
  have hv9 : v = o.1 := congrArg Prod.fst ho
  have hZ9 : Z = o.2 := congrArg Prod.snd ho
  clear ho
  subst hv9 hZ9
  unfold fn_112 at h
  refine w_sg k112 2 (pc' := 2) (ls' := [(0, aR 0 0), (1, aI a1), (2, aI a2)]) (st' := [aI a1, aR 0 0]) (cs' := []) (fun _ => rfl) al0 ?_
  obtain ⟨o27, Y1, hv2, ⟨_, ho28, h⟩ | ⟨x26, ho28, h⟩⟩ := bx_some h
  · subst ho28
    refine w_cV0 k112 (sn_155 _ _ _ hv2) rfl (st := []) rfl ?_ (fun _ _ q => q.elim)
    refine w_sg k112 1 (pc' := 6) (ls' := [(0, aR 0 0), (1, aI a1), (2, aI a2)]) (st' := [aI a2]) (cs' := []) (fun _ => rfl) al0 ?_
    by_cases c3 : a2 = (nI 0)
    · replace h := if_t c3 h
      refine w_swAt k112 0 rfl rfl rfl rfl c3 ?_
      obtain ⟨hc9, h⟩ := ck_some h
      refine w_sg k112 5 (pc' := 53) (ls' := [(0, aR 0 0), (1, aI a1), (2, aI a2)]) (st' := [aI (gI Y1.1 23 0 (ix a1))]) (cs' := [vp_in a1 5]) (fun _ => rfl) (al1 (vin hc9)) ?_
      obtain rfl := Option.some.inj h
      exact w_ireturn k112 Pz_l
    replace h := if_f c3 h
    by_cases c4 : a2 = (nI 1)
    · replace h := if_t c4 h
      refine w_swAt k112 1 rfl rfl rfl rfl c4 ?_
      refine w_sg k112 5 (pc' := 63) (ls' := [(0, aR 0 0), (1, aI a1), (2, aI a2)]) (st' := [aI a1, aI (nI 1), aR 12 3]) (cs' := []) (fun _ => rfl) al0 ?_
      obtain ⟨v12, Y10, hv11, h⟩ := bd_some h
      refine w_cV1 k112 (sn_42_12_c1 _ _ _ _ hv11) rfl (st := []) rfl ?_ (fun _ _ q => q.elim)
      obtain rfl := Option.some.inj h
      exact w_ireturn k112 Pz_l
    replace h := if_f c4 h
    by_cases c5 : a2 = (nI 2)
    · replace h := if_t c5 h
      refine w_swAt k112 2 rfl rfl rfl rfl c5 ?_
      obtain ⟨hc13, h⟩ := ck_some h
      refine w_sg k112 5 (pc' := 76) (ls' := [(0, aR 0 0), (1, aI a1), (2, aI a2)]) (st' := [aI (gI Y1.1 24 0 (ix a1))]) (cs' := [vp_in a1 5]) (fun _ => rfl) (al1 (vin hc13)) ?_
      obtain rfl := Option.some.inj h
      exact w_ireturn k112 Pz_l
    replace h := if_f c5 h
    by_cases c6 : a2 = (nI 3)
    · replace h := if_t c6 h
      refine w_swAt k112 3 rfl rfl rfl rfl c6 ?_
      refine w_sg k112 7 (pc' := 92) (ls' := [(0, aR 0 0), (1, aI a1), (2, aI a2)]) (st' := [aI a1, aI (gI Y1.1 5 (Y1.2 0) 0), aR 22 0]) (cs' := []) (fun _ => rfl) al0 ?_
      obtain ⟨v16, Y14, hv15, h⟩ := bd_some h
      refine w_cS1 k112 (sn_45_22 _ _ _ _ _ hv15) rfl (st := []) rfl ?_ (fun _ _ q => q.elim)
      obtain rfl := Option.some.inj h
      exact w_ireturn k112 Pz_l
    replace h := if_f c6 h
    by_cases c7 : a2 = (nI 4)
    · replace h := if_t c7 h
      refine w_swAt k112 4 rfl rfl rfl rfl c7 ?_
      refine w_sg k112 3 (pc' := 101) (ls' := [(0, aR 0 0), (1, aI a1), (2, aI a2)]) (st' := [aI a1, aR 21 0]) (cs' := []) (fun _ => rfl) al0 ?_
      obtain ⟨v19, Y17, hv18, h⟩ := bd_some h
      refine w_cV1 k112 (sn_74 _ _ _ _ hv18) rfl (st := []) rfl ?_ (fun _ _ q => q.elim)
      refine w_if_eq k112 rfl (fun c => ?_) (fun c => ?_)
      · replace h := if_t c h
        refine w_sg k112 1 (pc' := 112) (ls' := [(0, aR 0 0), (1, aI a1), (2, aI a2)]) (st' := [aI (nI 0)]) (cs' := []) (fun _ => rfl) al0 ?_
        obtain rfl := Option.some.inj h
        exact w_ireturn k112 Pz_l
      · replace h := if_f c h
        refine w_sg k112 2 (pc' := 112) (ls' := [(0, aR 0 0), (1, aI a1), (2, aI a2)]) (st' := [aI (nI 1)]) (cs' := []) (fun _ => rfl) al0 ?_
        obtain rfl := Option.some.inj h
        exact w_ireturn k112 Pz_l
    replace h := if_f c7 h
    by_cases c8 : a2 = (nI 5)
    · replace h := if_t c8 h
      refine w_swAt k112 5 rfl rfl rfl rfl c8 ?_
      refine w_sg k112 6 (pc' := 125) (ls' := [(0, aR 0 0), (1, aI a1), (2, aI a2)]) (st' := [aI a1, aR 21 0, aR 12 3]) (cs' := []) (fun _ => rfl) al0 ?_
      obtain ⟨v22, Y20, hv21, h⟩ := bd_some h
      refine w_cV1 k112 (sn_76 _ _ _ _ hv21) rfl (st := [aR 12 3]) rfl ?_ (fun _ _ q => q.elim)
      obtain ⟨v25, Y23, hv24, h⟩ := bd_some h
      refine w_cV1 k112 (sn_39 _ _ _ _ hv24) rfl (st := []) rfl ?_ (fun _ _ q => q.elim)
      obtain rfl := Option.some.inj h
      exact w_ireturn k112 Pz_l
    replace h := if_f c8 h
    refine w_swOut k112 rfl rfl rfl (nsw_s (nsw_s (nsw_s (nsw_s (nsw_s (nsw_s nsw_0 c3) c4) c5) c6) c7) c8) ?_
    obtain rfl := Option.some.inj h
    exact w_throw k112 rfl rfl Ez_r
  · subst ho28
    obtain rfl := Option.some.inj h
    exact w_xcallV k112 (sn_155 _ _ _ hv2) rfl (st := []) rfl Ez_r
set_option maxRecDepth 20000 in
set_option maxHeartbeats 4000000 in
/-- BallotBus.order -/
theorem sn_114 (a1 : Int32) {Y : Sm} (v : (Int32 ⊕ Nat)) (Z : Sm) (h : fn_114 a1 Y = some (v, Z)) : Mt 7 1 114 [aR 0 0, aI a1] Y (Pz (fun v => some (aI v)) v Z) (Ez v Z) := by
  refine Mt_of [(0, aR 0 0), (1, aI a1)] ?_
  generalize ho : (v, Z) = o at h
  have hv9 : v = o.1 := congrArg Prod.fst ho
  have hZ9 : Z = o.2 := congrArg Prod.snd ho
  clear ho
  subst hv9 hZ9
  unfold fn_114 at h
  refine w_sg k114 2 (pc' := 2) (ls' := [(0, aR 0 0), (1, aI a1)]) (st' := [aI a1, aR 0 0]) (cs' := []) (fun _ => rfl) al0 ?_
  obtain ⟨o5, Y1, hv2, ⟨_, ho6, h⟩ | ⟨x4, ho6, h⟩⟩ := bx_some h
  · subst ho6
    refine w_cV0 k114 (sn_155 _ _ _ hv2) rfl (st := []) rfl ?_ (fun _ _ q => q.elim)
    obtain ⟨hc3, h⟩ := ck_some h
    refine w_sg k114 5 (pc' := 14) (ls' := [(0, aR 0 0), (1, aI a1)]) (st' := [aI (gI Y1.1 22 0 (ix a1))]) (cs' := [vp_in a1 5]) (fun _ => rfl) (al1 (vin hc3)) ?_
    obtain rfl := Option.some.inj h
    exact w_ireturn k114 Pz_l
  · subst ho6
    obtain rfl := Option.some.inj h
    exact w_xcallV k114 (sn_155 _ _ _ hv2) rfl (st := []) rfl Ez_r
set_option maxRecDepth 20000 in
set_option maxHeartbeats 4000000 in
/-- BallotBus$Requests.indexOf -/
theorem sn_38 (i0 : Nat) (a1 : Int32) {Y : Sm} (v : Int32) (Z : Sm) (h : fn_38 i0 a1 Y = some (v, Z)) : Mt 4 0 38 [aR 12 i0, aI a1] Y (Rt (some (aI v)) Z) nX := by
  refine Mt_of [(0, aR 12 i0), (1, aI a1)] ?_
  generalize ho : (v, Z) = o at h
  have hv9 : v = o.1 := congrArg Prod.fst ho
  have hZ9 : Z = o.2 := congrArg Prod.snd ho
  clear ho
  subst hv9 hZ9
  unfold fn_38 at h
  have L2_0 : ∀ (l0 : Nat) (l1 : Int32) (n : Nat) (l2 : Int32) (Y : Sm), lp (fun s => fn_38_L2 l0 l1 s.1 s.2) n (l2, Y) = some o → Wm 4 0 38 0 2 [(0, aR 12 l0), (1, aI l1), (2, aI l2)] [] Y (Rt (some (aI o.1)) o.2) nX := by
    intro l0 l1 n
    induction n with
    | zero => intro l2 Y h; cases h
    | succ n ih3 =>
      intro l2 Y h
      obtain ⟨q1, h, hn2⟩ := lp_succ h
      replace h : fn_38_L2 l0 l1 l2 Y = some q1 := h
      unfold fn_38_L2 at h
      refine w_sg k38 3 (pc' := 7) (ls' := [(0, aR 12 l0), (1, aI l1), (2, aI l2)]) (st' := [aI (gI Y.1 12 l0 1), aI l2]) (cs' := []) (fun _ => rfl) al0 ?_
      refine w_icmp_ge k38 rfl (fun c => ?_) (fun c => ?_)
      · replace h := if_t c h
        refine w_sg k38 1 (pc' := 31) (ls' := [(0, aR 12 l0), (1, aI l1), (2, aI l2)]) (st' := [aI (-1 : Int32)]) (cs' := []) (fun _ => rfl) al0 ?_
        obtain rfl := Option.some.inj h
        obtain rfl := lpn_r hn2
        exact w_ireturn k38 ⟨rfl, rfl⟩
      · replace h := if_f c h
        refine w_sg k38 4 (pc' := 16) (ls' := [(0, aR 12 l0), (1, aI l1), (2, aI l2)]) (st' := [aR 19 l0]) (cs' := [vp_in (nI 5) 6]) (fun _ => rfl) (al1 (vin rfl)) ?_
        obtain ⟨hc4, h⟩ := ck_some h
        refine w_sg k38 3 (pc' := 19) (ls' := [(0, aR 12 l0), (1, aI l1), (2, aI l2)]) (st' := [aI l1, aI (gI Y.1 19 l0 (ix l2))]) (cs' := [vp_in l2 40]) (fun _ => rfl) (al1 (vin hc4)) ?_
        refine w_icmp_ne k38 rfl (fun c => ?_) (fun c => ?_)
        · replace h := if_f c h
          refine w_sg k38 1 (pc' := 27) (ls' := [(0, aR 12 l0), (1, aI l1), (2, aI (l2 + (nI 1)))]) (st' := []) (cs' := []) (fun _ => rfl) al0 ?_
          refine w_sg k38 1 (pc' := 2) (ls' := [(0, aR 12 l0), (1, aI l1), (2, aI (l2 + (nI 1)))]) (st' := []) (cs' := []) (fun _ => rfl) al0 ?_
          refine w_ls [(0, aR 12 l0), (1, aI l1), (2, aI (l2 + (nI 1)))] (lq_c rfl (lq_c rfl (lq_c rfl lq_n))) ?_
          obtain rfl := Option.some.inj h
          exact ih3 _ _ (lpn_l hn2)
        · replace h := if_t c h
          refine w_sg k38 1 (pc' := 23) (ls' := [(0, aR 12 l0), (1, aI l1), (2, aI l2)]) (st' := [aI l2]) (cs' := []) (fun _ => rfl) al0 ?_
          obtain rfl := Option.some.inj h
          obtain rfl := lpn_r hn2
          exact w_ireturn k38 ⟨rfl, rfl⟩
  refine w_sg k38 2 (pc' := 2) (ls' := [(0, aR 12 i0), (1, aI a1), (2, aI (nI 0))]) (st' := []) (cs' := []) (fun _ => rfl) al0 ?_
  refine w_ls [(0, aR 12 i0), (1, aI a1), (2, aI (nI 0))] (lq_c rfl (lq_c rfl (lq_c rfl lq_n))) ?_
  exact L2_0 _ _ _ _ _ h
set_option maxRecDepth 20000 in
set_option maxHeartbeats 4000000 in
/-- BallotBus.indexOfRequest -/
theorem sn_158 (a1 : Int32) {Y : Sm} (v : (Int32 ⊕ Nat)) (Z : Sm) (h : fn_158 a1 Y = some (v, Z)) : Mt 6 1 158 [aR 0 0, aI a1] Y (Pz (fun v => some (aI v)) v Z) (Ez v Z) := by
  refine Mt_of [(0, aR 0 0), (1, aI a1)] ?_
  generalize ho : (v, Z) = o at h
  have hv9 : v = o.1 := congrArg Prod.fst ho
  have hZ9 : Z = o.2 := congrArg Prod.snd ho
  clear ho
  subst hv9 hZ9
  unfold fn_158 at h
  refine w_sg k158 4 (pc' := 8) (ls' := [(0, aR 0 0), (1, aI a1)]) (st' := [aI a1, aR 12 3]) (cs' := []) (fun _ => rfl) al0 ?_
  obtain ⟨v3, Y1, hv2, h⟩ := bd_some h
  refine w_cV1 k158 (sn_38 _ _ _ _ hv2) rfl (st := []) rfl ?_ (fun _ _ q => q.elim)
  refine w_sg k158 1 (pc' := 12) (ls' := [(0, aR 0 0), (1, aI a1), (2, aI v3)]) (st' := []) (cs' := []) (fun _ => rfl) al0 ?_
  refine w_sg k158 2 (pc' := 14) (ls' := [(0, aR 0 0), (1, aI a1), (2, aI v3)]) (st' := [aI (-1 : Int32), aI v3]) (cs' := []) (fun _ => rfl) al0 ?_
  refine w_icmp_ne k158 rfl (fun c => ?_) (fun c => ?_)
  · replace h := if_f c h
    refine w_sg k158 1 (pc' := 29) (ls' := [(0, aR 0 0), (1, aI a1), (2, aI v3)]) (st' := [aI v3]) (cs' := []) (fun _ => rfl) al0 ?_
    obtain rfl := Option.some.inj h
    exact w_ireturn k158 Pz_l
  · replace h := if_t c h
    obtain rfl := Option.some.inj h
    exact w_throw k158 rfl rfl Ez_r
set_option maxRecDepth 20000 in
set_option maxHeartbeats 4000000 in
/-- BallotBus.request -/
theorem sn_115 (a1 : Int32) (a2 : Int32) {Y : Sm} (v : (Int32 ⊕ Nat)) (Z : Sm) (h : fn_115 a1 a2 Y = some (v, Z)) : Mt 7 1 115 [aR 0 0, aI a1, aI a2] Y (Pz (fun v => some (aI v)) v Z) (Ez v Z) := by
  refine Mt_of [(0, aR 0 0), (1, aI a1), (2, aI a2)] ?_
  generalize ho : (v, Z) = o at h
  have hv9 : v = o.1 := congrArg Prod.fst ho
  have hZ9 : Z = o.2 := congrArg Prod.snd ho
  clear ho
  subst hv9 hZ9
  unfold fn_115 at h
  refine w_sg k115 1 (pc' := 1) (ls' := [(0, aR 0 0), (1, aI a1), (2, aI a2)]) (st' := [aI a2]) (cs' := []) (fun _ => rfl) al0 ?_
  refine w_if_lt k115 rfl (fun c => ?_) (fun c => ?_)
  · replace h := if_t c h
    obtain rfl := Option.some.inj h
    exact w_throw k115 rfl rfl Ez_r
  · replace h := if_f c h
    refine w_sg k115 2 (pc' := 6) (ls' := [(0, aR 0 0), (1, aI a1), (2, aI a2)]) (st' := [aI (nI 4), aI a2]) (cs' := []) (fun _ => rfl) al0 ?_
    refine w_icmp_le k115 rfl (fun c => ?_) (fun c => ?_)
    · replace h := if_t c h
      refine w_sg k115 5 (pc' := 30) (ls' := [(0, aR 0 0), (1, aI a1), (2, aI a2)]) (st' := [aI a2, aR 13 3]) (cs' := []) (fun _ => rfl) al0 ?_
      by_cases c0 : a2 = (nI 0)
      · replace h := if_t c0 h
        subst c0
        refine w_sg k115 1 (pc' := 31) (ls' := [(0, aR 0 0), (1, aI a1), (2, aI (nI 0))]) (st' := [aR 14 3]) (cs' := [vp_in (nI 0) 6]) (fun _ => rfl) (al1 (vin rfl)) ?_
        refine w_sg k115 2 (pc' := 33) (ls' := [(0, aR 0 0), (1, aI a1), (2, aI (nI 0))]) (st' := [aI a1, aR 0 0, aR 14 3]) (cs' := []) (fun _ => rfl) al0 ?_
        obtain ⟨o6, Y1, hv2, ⟨v3, ho7, h⟩ | ⟨x5, ho7, h⟩⟩ := bx_some h
        · subst ho7
          refine w_cV1 k115 (sn_158 _ _ _ hv2) rfl (st := [aR 14 3]) rfl ?_ (fun _ _ q => q.elim)
          obtain ⟨hc4, h⟩ := ck_some h
          refine w_sg k115 1 (pc' := 37) (ls' := [(0, aR 0 0), (1, aI a1), (2, aI (nI 0))]) (st' := [aI (gI Y1.1 14 3 (ix v3))]) (cs' := [vp_in v3 40]) (fun _ => rfl) (al1 (vin hc4)) ?_
          obtain rfl := Option.some.inj h
          exact w_ireturn k115 Pz_l
        · subst ho7
          obtain rfl := Option.some.inj h
          exact w_xcallV k115 (sn_158 _ _ _ hv2) rfl (st := [aR 14 3]) rfl Ez_r
      replace h := if_f c0 h
      by_cases c1 : a2 = (nI 1)
      · replace h := if_t c1 h
        subst c1
        refine w_sg k115 1 (pc' := 31) (ls' := [(0, aR 0 0), (1, aI a1), (2, aI (nI 1))]) (st' := [aR 15 3]) (cs' := [vp_in (nI 1) 6]) (fun _ => rfl) (al1 (vin rfl)) ?_
        refine w_sg k115 2 (pc' := 33) (ls' := [(0, aR 0 0), (1, aI a1), (2, aI (nI 1))]) (st' := [aI a1, aR 0 0, aR 15 3]) (cs' := []) (fun _ => rfl) al0 ?_
        obtain ⟨o13, Y8, hv9, ⟨v10, ho14, h⟩ | ⟨x12, ho14, h⟩⟩ := bx_some h
        · subst ho14
          refine w_cV1 k115 (sn_158 _ _ _ hv9) rfl (st := [aR 15 3]) rfl ?_ (fun _ _ q => q.elim)
          obtain ⟨hc11, h⟩ := ck_some h
          refine w_sg k115 1 (pc' := 37) (ls' := [(0, aR 0 0), (1, aI a1), (2, aI (nI 1))]) (st' := [aI (gI Y8.1 15 3 (ix v10))]) (cs' := [vp_in v10 40]) (fun _ => rfl) (al1 (vin hc11)) ?_
          obtain rfl := Option.some.inj h
          exact w_ireturn k115 Pz_l
        · subst ho14
          obtain rfl := Option.some.inj h
          exact w_xcallV k115 (sn_158 _ _ _ hv9) rfl (st := [aR 15 3]) rfl Ez_r
      replace h := if_f c1 h
      by_cases c2 : a2 = (nI 2)
      · replace h := if_t c2 h
        subst c2
        refine w_sg k115 1 (pc' := 31) (ls' := [(0, aR 0 0), (1, aI a1), (2, aI (nI 2))]) (st' := [aR 16 3]) (cs' := [vp_in (nI 2) 6]) (fun _ => rfl) (al1 (vin rfl)) ?_
        refine w_sg k115 2 (pc' := 33) (ls' := [(0, aR 0 0), (1, aI a1), (2, aI (nI 2))]) (st' := [aI a1, aR 0 0, aR 16 3]) (cs' := []) (fun _ => rfl) al0 ?_
        obtain ⟨o20, Y15, hv16, ⟨v17, ho21, h⟩ | ⟨x19, ho21, h⟩⟩ := bx_some h
        · subst ho21
          refine w_cV1 k115 (sn_158 _ _ _ hv16) rfl (st := [aR 16 3]) rfl ?_ (fun _ _ q => q.elim)
          obtain ⟨hc18, h⟩ := ck_some h
          refine w_sg k115 1 (pc' := 37) (ls' := [(0, aR 0 0), (1, aI a1), (2, aI (nI 2))]) (st' := [aI (gI Y15.1 16 3 (ix v17))]) (cs' := [vp_in v17 40]) (fun _ => rfl) (al1 (vin hc18)) ?_
          obtain rfl := Option.some.inj h
          exact w_ireturn k115 Pz_l
        · subst ho21
          obtain rfl := Option.some.inj h
          exact w_xcallV k115 (sn_158 _ _ _ hv16) rfl (st := [aR 16 3]) rfl Ez_r
      replace h := if_f c2 h
      by_cases c3 : a2 = (nI 3)
      · replace h := if_t c3 h
        subst c3
        refine w_sg k115 1 (pc' := 31) (ls' := [(0, aR 0 0), (1, aI a1), (2, aI (nI 3))]) (st' := [aR 17 3]) (cs' := [vp_in (nI 3) 6]) (fun _ => rfl) (al1 (vin rfl)) ?_
        refine w_sg k115 2 (pc' := 33) (ls' := [(0, aR 0 0), (1, aI a1), (2, aI (nI 3))]) (st' := [aI a1, aR 0 0, aR 17 3]) (cs' := []) (fun _ => rfl) al0 ?_
        obtain ⟨o27, Y22, hv23, ⟨v24, ho28, h⟩ | ⟨x26, ho28, h⟩⟩ := bx_some h
        · subst ho28
          refine w_cV1 k115 (sn_158 _ _ _ hv23) rfl (st := [aR 17 3]) rfl ?_ (fun _ _ q => q.elim)
          obtain ⟨hc25, h⟩ := ck_some h
          refine w_sg k115 1 (pc' := 37) (ls' := [(0, aR 0 0), (1, aI a1), (2, aI (nI 3))]) (st' := [aI (gI Y22.1 17 3 (ix v24))]) (cs' := [vp_in v24 40]) (fun _ => rfl) (al1 (vin hc25)) ?_
          obtain rfl := Option.some.inj h
          exact w_ireturn k115 Pz_l
        · subst ho28
          obtain rfl := Option.some.inj h
          exact w_xcallV k115 (sn_158 _ _ _ hv23) rfl (st := [aR 17 3]) rfl Ez_r
      replace h := if_f c3 h
      by_cases c4 : a2 = (nI 4)
      · replace h := if_t c4 h
        subst c4
        refine w_sg k115 1 (pc' := 31) (ls' := [(0, aR 0 0), (1, aI a1), (2, aI (nI 4))]) (st' := [aR 18 3]) (cs' := [vp_in (nI 4) 6]) (fun _ => rfl) (al1 (vin rfl)) ?_
        refine w_sg k115 2 (pc' := 33) (ls' := [(0, aR 0 0), (1, aI a1), (2, aI (nI 4))]) (st' := [aI a1, aR 0 0, aR 18 3]) (cs' := []) (fun _ => rfl) al0 ?_
        obtain ⟨o34, Y29, hv30, ⟨v31, ho35, h⟩ | ⟨x33, ho35, h⟩⟩ := bx_some h
        · subst ho35
          refine w_cV1 k115 (sn_158 _ _ _ hv30) rfl (st := [aR 18 3]) rfl ?_ (fun _ _ q => q.elim)
          obtain ⟨hc32, h⟩ := ck_some h
          refine w_sg k115 1 (pc' := 37) (ls' := [(0, aR 0 0), (1, aI a1), (2, aI (nI 4))]) (st' := [aI (gI Y29.1 18 3 (ix v31))]) (cs' := [vp_in v31 40]) (fun _ => rfl) (al1 (vin hc32)) ?_
          obtain rfl := Option.some.inj h
          exact w_ireturn k115 Pz_l
        · subst ho35
          obtain rfl := Option.some.inj h
          exact w_xcallV k115 (sn_158 _ _ _ hv30) rfl (st := [aR 18 3]) rfl Ez_r
      replace h := if_f c4 h
      by_cases c5 : a2 = (nI 5)
      · replace h := if_t c5 h
        subst c5
        refine w_sg k115 1 (pc' := 31) (ls' := [(0, aR 0 0), (1, aI a1), (2, aI (nI 5))]) (st' := [aR 19 3]) (cs' := [vp_in (nI 5) 6]) (fun _ => rfl) (al1 (vin rfl)) ?_
        refine w_sg k115 2 (pc' := 33) (ls' := [(0, aR 0 0), (1, aI a1), (2, aI (nI 5))]) (st' := [aI a1, aR 0 0, aR 19 3]) (cs' := []) (fun _ => rfl) al0 ?_
        obtain ⟨o41, Y36, hv37, ⟨v38, ho42, h⟩ | ⟨x40, ho42, h⟩⟩ := bx_some h
        · subst ho42
          refine w_cV1 k115 (sn_158 _ _ _ hv37) rfl (st := [aR 19 3]) rfl ?_ (fun _ _ q => q.elim)
          obtain ⟨hc39, h⟩ := ck_some h
          refine w_sg k115 1 (pc' := 37) (ls' := [(0, aR 0 0), (1, aI a1), (2, aI (nI 5))]) (st' := [aI (gI Y36.1 19 3 (ix v38))]) (cs' := [vp_in v38 40]) (fun _ => rfl) (al1 (vin hc39)) ?_
          obtain rfl := Option.some.inj h
          exact w_ireturn k115 Pz_l
        · subst ho42
          obtain rfl := Option.some.inj h
          exact w_xcallV k115 (sn_158 _ _ _ hv37) rfl (st := [aR 19 3]) rfl Ez_r
      replace h := if_f c5 h
      cases h
    · replace h := if_f c h
      obtain rfl := Option.some.inj h
      exact w_throw k115 rfl rfl Ez_r
set_option maxRecDepth 20000 in
set_option maxHeartbeats 4000000 in
/-- BallotBus$State.numberAhead -/
theorem sn_78 (i0 : Nat) (a1 : Int32) (a2 : Int32) {Y : Sm} (v : Int32) (Z : Sm) (h : fn_78 i0 a1 a2 Y = some (v, Z)) : Mt 6 0 78 [aR 21 i0, aI a1, aI a2] Y (Rt (some (aI v)) Z) nX := by
  refine Mt_of [(0, aR 21 i0), (1, aI a1), (2, aI a2)] ?_
  generalize ho : (v, Z) = o at h
  have hv9 : v = o.1 := congrArg Prod.fst ho
  have hZ9 : Z = o.2 := congrArg Prod.snd ho
  clear ho
  subst hv9 hZ9
  unfold fn_78 at h
  have L12_0 : ∀ (l0 : Nat) (l1 : Int32) (l2 : Int32) (l4 : Int32) (n : Nat) (l3 : Int32) (l5 : Int32) (Y : Sm), lp (fun s => fn_78_L12 l0 l1 l2 l4 s.1 s.2.1 s.2.2) n (l3, l5, Y) = some o → Wm 6 0 78 0 12 [(0, aR 21 l0), (1, aI l1), (2, aI l2), (3, aI l3), (4, aI l4), (5, aI l5)] [] Y (Rt (some (aI o.1)) o.2) nX := by
    intro l0 l1 l2 l4 n
    induction n with
    | zero => intro l3 l5 Y h; cases h
    | succ n ih6 =>
      intro l3 l5 Y h
      obtain ⟨q4, h, hn5⟩ := lp_succ h
      replace h : fn_78_L12 l0 l1 l2 l4 l3 l5 Y = some q4 := h
      unfold fn_78_L12 at h
      refine w_sg k78 4 (pc' := 21) (ls' := [(0, aR 21 l0), (1, aI l1), (2, aI l2), (3, aI l3), (4, aI l4), (5, aI l5)]) (st' := [aI (gI Y.1 12 (l0 + 3) 1), aI l5]) (cs' := []) (fun _ => rfl) al0 ?_
      refine w_icmp_ge k78 rfl (fun c => ?_) (fun c => ?_)
      · replace h := if_t c h
        refine w_sg k78 1 (pc' := 72) (ls' := [(0, aR 21 l0), (1, aI l1), (2, aI l2), (3, aI l3), (4, aI l4), (5, aI l5)]) (st' := [aI l3]) (cs' := []) (fun _ => rfl) al0 ?_
        obtain rfl := Option.some.inj h
        obtain rfl := lpn_r hn5
        exact w_ireturn k78 ⟨rfl, rfl⟩
      · replace h := if_f c h
        refine w_sg k78 3 (pc' := 28) (ls' := [(0, aR 21 l0), (1, aI l1), (2, aI l2), (3, aI l3), (4, aI l4), (5, aI l5)]) (st' := [aI l2, aI l5, aR 21 l0]) (cs' := []) (fun _ => rfl) al0 ?_
        obtain ⟨v9, Y7, hv8, h⟩ := bd_some h
        refine w_cV1 k78 (sn_79 _ _ _ _ _ hv8) rfl (st := []) rfl ?_ (fun _ _ q => q.elim)
        refine w_if_eq k78 rfl (fun c => ?_) (fun c => ?_)
        · replace h := if_t c h
          refine w_sg k78 1 (pc' := 68) (ls' := [(0, aR 21 l0), (1, aI l1), (2, aI l2), (3, aI l3), (4, aI l4), (5, aI (l5 + (nI 1)))]) (st' := []) (cs' := []) (fun _ => rfl) al0 ?_
          refine w_sg k78 1 (pc' := 12) (ls' := [(0, aR 21 l0), (1, aI l1), (2, aI l2), (3, aI l3), (4, aI l4), (5, aI (l5 + (nI 1)))]) (st' := []) (cs' := []) (fun _ => rfl) al0 ?_
          refine w_ls [(0, aR 21 l0), (1, aI l1), (2, aI l2), (3, aI l3), (4, aI l4), (5, aI (l5 + (nI 1)))] (lq_c rfl (lq_c rfl (lq_c rfl (lq_c rfl (lq_c rfl (lq_c rfl lq_n)))))) ?_
          obtain rfl := Option.some.inj h
          exact ih6 _ _ _ (lpn_l hn5)
        · replace h := if_f c h
          refine w_sg k78 2 (pc' := 37) (ls' := [(0, aR 21 l0), (1, aI l1), (2, aI l2), (3, aI l3), (4, aI l4), (5, aI l5)]) (st' := [aI l5, aR 21 l0]) (cs' := []) (fun _ => rfl) al0 ?_
          obtain ⟨v12, Y10, hv11, h⟩ := bd_some h
          refine w_cV1 k78 (sn_80 _ _ _ _ hv11) rfl (st := []) rfl ?_ (fun _ _ q => q.elim)
          refine w_sg k78 1 (pc' := 42) (ls' := [(0, aR 21 l0), (1, aI l1), (2, aI l2), (3, aI l3), (4, aI l4), (5, aI l5)]) (st' := [aI l4, aI v12]) (cs' := []) (fun _ => rfl) al0 ?_
          refine w_icmp_lt k78 rfl (fun c => ?_) (fun c => ?_)
          · replace h := if_t c h
            refine w_sg k78 1 (pc' := 65) (ls' := [(0, aR 21 l0), (1, aI l1), (2, aI l2), (3, aI (l3 + (nI 1))), (4, aI l4), (5, aI l5)]) (st' := []) (cs' := []) (fun _ => rfl) al0 ?_
            refine w_sg k78 1 (pc' := 68) (ls' := [(0, aR 21 l0), (1, aI l1), (2, aI l2), (3, aI (l3 + (nI 1))), (4, aI l4), (5, aI (l5 + (nI 1)))]) (st' := []) (cs' := []) (fun _ => rfl) al0 ?_
            refine w_sg k78 1 (pc' := 12) (ls' := [(0, aR 21 l0), (1, aI l1), (2, aI l2), (3, aI (l3 + (nI 1))), (4, aI l4), (5, aI (l5 + (nI 1)))]) (st' := []) (cs' := []) (fun _ => rfl) al0 ?_
            refine w_ls [(0, aR 21 l0), (1, aI l1), (2, aI l2), (3, aI (l3 + (nI 1))), (4, aI l4), (5, aI (l5 + (nI 1)))] (lq_c rfl (lq_c rfl (lq_c rfl (lq_c rfl (lq_c rfl (lq_c rfl lq_n)))))) ?_
            obtain rfl := Option.some.inj h
            exact ih6 _ _ _ (lpn_l hn5)
          · replace h := if_f c h
            refine w_sg k78 2 (pc' := 48) (ls' := [(0, aR 21 l0), (1, aI l1), (2, aI l2), (3, aI l3), (4, aI l4), (5, aI l5)]) (st' := [aI l5, aR 21 l0]) (cs' := []) (fun _ => rfl) al0 ?_
            obtain ⟨v15, Y13, hv14, h⟩ := bd_some h
            refine w_cV1 k78 (sn_80 _ _ _ _ hv14) rfl (st := []) rfl ?_ (fun _ _ q => q.elim)
            refine w_sg k78 1 (pc' := 53) (ls' := [(0, aR 21 l0), (1, aI l1), (2, aI l2), (3, aI l3), (4, aI l4), (5, aI l5)]) (st' := [aI l4, aI v15]) (cs' := []) (fun _ => rfl) al0 ?_
            refine w_icmp_ne k78 rfl (fun c => ?_) (fun c => ?_)
            · replace h := if_f c h
              refine w_sg k78 1 (pc' := 68) (ls' := [(0, aR 21 l0), (1, aI l1), (2, aI l2), (3, aI l3), (4, aI l4), (5, aI (l5 + (nI 1)))]) (st' := []) (cs' := []) (fun _ => rfl) al0 ?_
              refine w_sg k78 1 (pc' := 12) (ls' := [(0, aR 21 l0), (1, aI l1), (2, aI l2), (3, aI l3), (4, aI l4), (5, aI (l5 + (nI 1)))]) (st' := []) (cs' := []) (fun _ => rfl) al0 ?_
              refine w_ls [(0, aR 21 l0), (1, aI l1), (2, aI l2), (3, aI l3), (4, aI l4), (5, aI (l5 + (nI 1)))] (lq_c rfl (lq_c rfl (lq_c rfl (lq_c rfl (lq_c rfl (lq_c rfl lq_n)))))) ?_
              obtain rfl := Option.some.inj h
              exact ih6 _ _ _ (lpn_l hn5)
            · replace h := if_t c h
              refine w_sg k78 2 (pc' := 59) (ls' := [(0, aR 21 l0), (1, aI l1), (2, aI l2), (3, aI l3), (4, aI l4), (5, aI l5)]) (st' := [aI l1, aI l5]) (cs' := []) (fun _ => rfl) al0 ?_
              refine w_icmp_ge k78 rfl (fun c => ?_) (fun c => ?_)
              · replace h := if_t c h
                refine w_sg k78 1 (pc' := 68) (ls' := [(0, aR 21 l0), (1, aI l1), (2, aI l2), (3, aI l3), (4, aI l4), (5, aI (l5 + (nI 1)))]) (st' := []) (cs' := []) (fun _ => rfl) al0 ?_
                refine w_sg k78 1 (pc' := 12) (ls' := [(0, aR 21 l0), (1, aI l1), (2, aI l2), (3, aI l3), (4, aI l4), (5, aI (l5 + (nI 1)))]) (st' := []) (cs' := []) (fun _ => rfl) al0 ?_
                refine w_ls [(0, aR 21 l0), (1, aI l1), (2, aI l2), (3, aI l3), (4, aI l4), (5, aI (l5 + (nI 1)))] (lq_c rfl (lq_c rfl (lq_c rfl (lq_c rfl (lq_c rfl (lq_c rfl lq_n)))))) ?_
                obtain rfl := Option.some.inj h
                exact ih6 _ _ _ (lpn_l hn5)
              · replace h := if_f c h
                refine w_sg k78 1 (pc' := 65) (ls' := [(0, aR 21 l0), (1, aI l1), (2, aI l2), (3, aI (l3 + (nI 1))), (4, aI l4), (5, aI l5)]) (st' := []) (cs' := []) (fun _ => rfl) al0 ?_
                refine w_sg k78 1 (pc' := 68) (ls' := [(0, aR 21 l0), (1, aI l1), (2, aI l2), (3, aI (l3 + (nI 1))), (4, aI l4), (5, aI (l5 + (nI 1)))]) (st' := []) (cs' := []) (fun _ => rfl) al0 ?_
                refine w_sg k78 1 (pc' := 12) (ls' := [(0, aR 21 l0), (1, aI l1), (2, aI l2), (3, aI (l3 + (nI 1))), (4, aI l4), (5, aI (l5 + (nI 1)))]) (st' := []) (cs' := []) (fun _ => rfl) al0 ?_
                refine w_ls [(0, aR 21 l0), (1, aI l1), (2, aI l2), (3, aI (l3 + (nI 1))), (4, aI l4), (5, aI (l5 + (nI 1)))] (lq_c rfl (lq_c rfl (lq_c rfl (lq_c rfl (lq_c rfl (lq_c rfl lq_n)))))) ?_
                obtain rfl := Option.some.inj h
                exact ih6 _ _ _ (lpn_l hn5)
  refine w_sg k78 2 (pc' := 2) (ls' := [(0, aR 21 i0), (1, aI a1), (2, aI a2), (3, aI (nI 0))]) (st' := []) (cs' := []) (fun _ => rfl) al0 ?_
  refine w_sg k78 2 (pc' := 4) (ls' := [(0, aR 21 i0), (1, aI a1), (2, aI a2), (3, aI (nI 0))]) (st' := [aI a1, aR 21 i0]) (cs' := []) (fun _ => rfl) al0 ?_
  obtain ⟨v3, Y1, hv2, h⟩ := bd_some h
  refine w_cV1 k78 (sn_80 _ _ _ _ hv2) rfl (st := []) rfl ?_ (fun _ _ q => q.elim)
  refine w_sg k78 1 (pc' := 9) (ls' := [(0, aR 21 i0), (1, aI a1), (2, aI a2), (3, aI (nI 0)), (4, aI v3)]) (st' := []) (cs' := []) (fun _ => rfl) al0 ?_
  refine w_sg k78 2 (pc' := 12) (ls' := [(0, aR 21 i0), (1, aI a1), (2, aI a2), (3, aI (nI 0)), (4, aI v3), (5, aI (nI 0))]) (st' := []) (cs' := []) (fun _ => rfl) al0 ?_
  refine w_ls [(0, aR 21 i0), (1, aI a1), (2, aI a2), (3, aI (nI 0)), (4, aI v3), (5, aI (nI 0))] (lq_c rfl (lq_c rfl (lq_c rfl (lq_c rfl (lq_c rfl (lq_c rfl lq_n)))))) ?_
  exact L12_0 _ _ _ _ _ _ _ _ h
set_option maxRecDepth 20000 in
set_option maxHeartbeats 4000000 in
/-- BallotBus$State.inLine -/
theorem sn_77 (i0 : Nat) (a1 : Int32) (a2 : Int32) {Y : Sm} (v : Int32) (Z : Sm) (h : fn_77 i0 a1 a2 Y = some (v, Z)) : Mt 7 0 77 [aR 21 i0, aI a1, aI a2] Y (Rt (some (aI v)) Z) nX := by
  refine Mt_of [(0, aR 21 i0), (1, aI a1), (2, aI a2)] ?_
  generalize ho : (v, Z) = o at h
  have hv9 : v = o.1 := congrArg Prod.fst ho
  have hZ9 : Z = o.2 := congrArg Prod.snd ho
  clear ho
  subst hv9 hZ9
  unfold fn_77 at h
  have L2_0 : ∀ (l0 : Nat) (l1 : Int32) (l2 : Int32) (n : Nat) (l3 : Int32) (Y : Sm), lp (fun s => fn_77_L2 l0 l1 l2 s.1 s.2) n (l3, Y) = some o → Wm 7 0 77 0 2 [(0, aR 21 l0), (1, aI l1), (2, aI l2), (3, aI l3)] [] Y (Rt (some (aI o.1)) o.2) nX := by
    intro l0 l1 l2 n
    induction n with
    | zero => intro l3 Y h; cases h
    | succ n ih3 =>
      intro l3 Y h
      obtain ⟨q1, h, hn2⟩ := lp_succ h
      replace h : fn_77_L2 l0 l1 l2 l3 Y = some q1 := h
      unfold fn_77_L2 at h
      refine w_sg k77 4 (pc' := 10) (ls' := [(0, aR 21 l0), (1, aI l1), (2, aI l2), (3, aI l3)]) (st' := [aI (gI Y.1 12 (l0 + 3) 1), aI l3]) (cs' := []) (fun _ => rfl) al0 ?_
      refine w_icmp_ge k77 rfl (fun c => ?_) (fun c => ?_)
      · replace h := if_t c h
        refine w_sg k77 1 (pc' := 41) (ls' := [(0, aR 21 l0), (1, aI l1), (2, aI l2), (3, aI l3)]) (st' := [aI (-1 : Int32)]) (cs' := []) (fun _ => rfl) al0 ?_
        obtain rfl := Option.some.inj h
        obtain rfl := lpn_r hn2
        exact w_ireturn k77 ⟨rfl, rfl⟩
      · replace h := if_f c h
        refine w_sg k77 3 (pc' := 16) (ls' := [(0, aR 21 l0), (1, aI l1), (2, aI l2), (3, aI l3)]) (st' := [aI l1, aI l3, aR 21 l0]) (cs' := []) (fun _ => rfl) al0 ?_
        obtain ⟨v6, Y4, hv5, h⟩ := bd_some h
        refine w_cV1 k77 (sn_79 _ _ _ _ _ hv5) rfl (st := []) rfl ?_ (fun _ _ q => q.elim)
        refine w_if_eq k77 rfl (fun c => ?_) (fun c => ?_)
        · replace h := if_t c h
          refine w_sg k77 1 (pc' := 37) (ls' := [(0, aR 21 l0), (1, aI l1), (2, aI l2), (3, aI (l3 + (nI 1)))]) (st' := []) (cs' := []) (fun _ => rfl) al0 ?_
          refine w_sg k77 1 (pc' := 2) (ls' := [(0, aR 21 l0), (1, aI l1), (2, aI l2), (3, aI (l3 + (nI 1)))]) (st' := []) (cs' := []) (fun _ => rfl) al0 ?_
          refine w_ls [(0, aR 21 l0), (1, aI l1), (2, aI l2), (3, aI (l3 + (nI 1)))] (lq_c rfl (lq_c rfl (lq_c rfl (lq_c rfl lq_n)))) ?_
          obtain rfl := Option.some.inj h
          exact ih3 _ _ (lpn_l hn2)
        · replace h := if_f c h
          refine w_sg k77 3 (pc' := 25) (ls' := [(0, aR 21 l0), (1, aI l1), (2, aI l2), (3, aI l3)]) (st' := [aI l1, aI l3, aR 21 l0]) (cs' := []) (fun _ => rfl) al0 ?_
          obtain ⟨v9, Y7, hv8, h⟩ := bd_some h
          refine w_cV1 k77 (sn_78 _ _ _ _ _ hv8) rfl (st := []) rfl ?_ (fun _ _ q => q.elim)
          refine w_sg k77 1 (pc' := 29) (ls' := [(0, aR 21 l0), (1, aI l1), (2, aI l2), (3, aI l3)]) (st' := [aI l2, aI v9]) (cs' := []) (fun _ => rfl) al0 ?_
          refine w_icmp_ne k77 rfl (fun c => ?_) (fun c => ?_)
          · replace h := if_f c h
            refine w_sg k77 1 (pc' := 37) (ls' := [(0, aR 21 l0), (1, aI l1), (2, aI l2), (3, aI (l3 + (nI 1)))]) (st' := []) (cs' := []) (fun _ => rfl) al0 ?_
            refine w_sg k77 1 (pc' := 2) (ls' := [(0, aR 21 l0), (1, aI l1), (2, aI l2), (3, aI (l3 + (nI 1)))]) (st' := []) (cs' := []) (fun _ => rfl) al0 ?_
            refine w_ls [(0, aR 21 l0), (1, aI l1), (2, aI l2), (3, aI (l3 + (nI 1)))] (lq_c rfl (lq_c rfl (lq_c rfl (lq_c rfl lq_n)))) ?_
            obtain rfl := Option.some.inj h
            exact ih3 _ _ (lpn_l hn2)
          · replace h := if_t c h
            refine w_sg k77 1 (pc' := 33) (ls' := [(0, aR 21 l0), (1, aI l1), (2, aI l2), (3, aI l3)]) (st' := [aI l3]) (cs' := []) (fun _ => rfl) al0 ?_
            obtain rfl := Option.some.inj h
            obtain rfl := lpn_r hn2
            exact w_ireturn k77 ⟨rfl, rfl⟩
  refine w_sg k77 2 (pc' := 2) (ls' := [(0, aR 21 i0), (1, aI a1), (2, aI a2), (3, aI (nI 0))]) (st' := []) (cs' := []) (fun _ => rfl) al0 ?_
  refine w_ls [(0, aR 21 i0), (1, aI a1), (2, aI a2), (3, aI (nI 0))] (lq_c rfl (lq_c rfl (lq_c rfl (lq_c rfl lq_n)))) ?_
  exact L2_0 _ _ _ _ _ _ h
set_option maxRecDepth 20000 in
set_option maxHeartbeats 4000000 in
/-- BallotBus.line -/
theorem sn_116 (a1 : Int32) (a2 : Int32) {Y : Sm} (v : (Int32 ⊕ Nat)) (Z : Sm) (h : fn_116 a1 a2 Y = some (v, Z)) : Mt 8 2 116 [aR 0 0, aI a1, aI a2] Y (Pz (fun v => some (aI v)) v Z) (Ez v Z) := by
  refine Mt_of [(0, aR 0 0), (1, aI a1), (2, aI a2)] ?_
  generalize ho : (v, Z) = o at h
  have hv9 : v = o.1 := congrArg Prod.fst ho
  have hZ9 : Z = o.2 := congrArg Prod.snd ho
  clear ho
  subst hv9 hZ9
  unfold fn_116 at h
  refine w_sg k116 2 (pc' := 2) (ls' := [(0, aR 0 0), (1, aI a1), (2, aI a2)]) (st' := [aI a1, aR 0 0]) (cs' := []) (fun _ => rfl) al0 ?_
  obtain ⟨o10, Y1, hv2, ⟨_, ho11, h⟩ | ⟨x9, ho11, h⟩⟩ := bx_some h
  · subst ho11
    refine w_cV0 k116 (sn_155 _ _ _ hv2) rfl (st := []) rfl ?_ (fun _ _ q => q.elim)
    refine w_sg k116 4 (pc' := 11) (ls' := [(0, aR 0 0), (1, aI a1), (2, aI a2)]) (st' := [aI a2, aI a1, aR 21 0]) (cs' := []) (fun _ => rfl) al0 ?_
    obtain ⟨v5, Y3, hv4, h⟩ := bd_some h
    refine w_cV1 k116 (sn_77 _ _ _ _ _ hv4) rfl (st := []) rfl ?_ (fun _ _ q => q.elim)
    refine w_sg k116 1 (pc' := 15) (ls' := [(0, aR 0 0), (1, aI a1), (2, aI a2), (3, aI v5)]) (st' := []) (cs' := []) (fun _ => rfl) al0 ?_
    refine w_sg k116 2 (pc' := 17) (ls' := [(0, aR 0 0), (1, aI a1), (2, aI a2), (3, aI v5)]) (st' := [aI (-1 : Int32), aI v5]) (cs' := []) (fun _ => rfl) al0 ?_
    refine w_icmp_ne k116 rfl (fun c => ?_) (fun c => ?_)
    · replace h := if_f c h
      refine w_sg k116 4 (pc' := 39) (ls' := [(0, aR 0 0), (1, aI a1), (2, aI a2), (3, aI v5)]) (st' := [aI v5, aR 12 3]) (cs' := []) (fun _ => rfl) al0 ?_
      obtain ⟨v8, Y6, hv7, h⟩ := bd_some h
      refine w_cV1 k116 (sn_39 _ _ _ _ hv7) rfl (st := []) rfl ?_ (fun _ _ q => q.elim)
      obtain rfl := Option.some.inj h
      exact w_ireturn k116 Pz_l
    · replace h := if_t c h
      obtain rfl := Option.some.inj h
      exact w_throw k116 rfl rfl Ez_r
  · subst ho11
    obtain rfl := Option.some.inj h
    exact w_xcallV k116 (sn_155 _ _ _ hv2) rfl (st := []) rfl Ez_r
set_option maxRecDepth 20000 in
set_option maxHeartbeats 4000000 in
/-- BallotBus.progress -/
theorem sn_117 {Y : Sm} (v : Int32) (Z : Sm) (h : fn_117 Y = some (v, Z)) : Mt 4 0 117 [aR 0 0] Y (Rt (some (aI v)) Z) nX := by
  refine Mt_of [(0, aR 0 0)] ?_
  generalize ho : (v, Z) = o at h
  have hv9 : v = o.1 := congrArg Prod.fst ho
  have hZ9 : Z = o.2 := congrArg Prod.snd ho
  clear ho
  subst hv9 hZ9
  unfold fn_117 at h
  refine w_sg k117 4 (pc' := 10) (ls' := [(0, aR 0 0)]) (st' := [aI (gI Y.1 12 3 2)]) (cs' := []) (fun _ => rfl) al0 ?_
  obtain rfl := Option.some.inj h
  exact w_ireturn k117 ⟨rfl, rfl⟩
set_option maxRecDepth 20000 in
set_option maxHeartbeats 4000000 in
/-- BallotBus$Poll.clear -/
theorem sn_26 (a1 : Int32) {Y : Sm} (v : Unit) (Z : Sm) (h : fn_26 a1 Y = some (v, Z)) : Mt 4 0 26 [aR 39 0, aI a1] Y (Rt none Z) nX := by
  refine Mt_of [(0, aR 39 0), (1, aI a1)] ?_
  generalize ho : (v, Z) = o at h
  have hv9 : v = o.1 := congrArg Prod.fst ho
  have hZ9 : Z = o.2 := congrArg Prod.snd ho
  clear ho
  subst hv9 hZ9
  unfold fn_26 at h
  have L12_0 : ∀ (n : Nat) (l2 : Int32) (Y : Sm), lp (fun s => fn_26_L12 s.1 s.2) n (l2, Y) = some o → Wm 4 0 26 0 12 [(0, aR 39 0), (2, aI l2)] [] Y (Rt none o.2) nX := by
    intro n
    induction n with
    | zero => intro l2 Y h; cases h
    | succ n ih5 =>
      intro l2 Y h
      obtain ⟨q3, h, hn4⟩ := lp_succ h
      replace h : fn_26_L12 l2 Y = some q3 := h
      unfold fn_26_L12 at h
      have L33_0 : ∀ (l2 : Int32) (n : Nat) (l3 : Int32) (Y : Sm), lp (fun s => fn_26_L33_d1 l2 s.1 s.2) n (l3, Y) = some q3 → Wm 4 0 26 0 33 [(0, aR 39 0), (2, aI l2), (3, aI l3)] [] Y (Rt none o.2) nX := by
        intro l2 n
        induction n with
        | zero => intro l3 Y h; cases h
        | succ n ih11 =>
          intro l3 Y h
          obtain ⟨q9, h, hn10⟩ := lp_succ h
          replace h : fn_26_L33_d1 l2 l3 Y = some q9 := h
          unfold fn_26_L33_d1 at h
          refine w_sg k26 2 (pc' := 35) (ls' := [(0, aR 39 0), (2, aI l2), (3, aI l3)]) (st' := [aI (nI 5), aI l3]) (cs' := []) (fun _ => rfl) al0 ?_
          refine w_icmp_ge k26 rfl (fun c => ?_) (fun c => ?_)
          · replace h := if_t c h
            refine w_sg k26 1 (pc' := 65) (ls' := [(0, aR 39 0), (2, aI (l2 + (nI 1))), (3, aI l3)]) (st' := []) (cs' := []) (fun _ => rfl) al0 ?_
            refine w_sg k26 1 (pc' := 12) (ls' := [(0, aR 39 0), (2, aI (l2 + (nI 1))), (3, aI l3)]) (st' := []) (cs' := []) (fun _ => rfl) al0 ?_
            refine w_ls [(0, aR 39 0), (2, aI (l2 + (nI 1)))] (lq_c rfl (lq_c rfl lq_n)) ?_
            obtain rfl := Option.some.inj h
            obtain rfl := lpn_r hn10
            exact ih5 _ _ (lpn_l hn4)
          · replace h := if_f c h
            obtain ⟨hc12, h⟩ := ck_some h
            refine w_sg k26 4 (pc' := 44) (ls' := [(0, aR 39 0), (2, aI l2), (3, aI l3)]) (st' := [aR 43 (ix l2)]) (cs' := [vp_in l2 5]) (fun _ => rfl) (al1 (vin hc12)) ?_
            obtain ⟨hc13, h⟩ := ck_some h
            refine w_sw k26 3 (Z := (sI Y 43 (ix l2) (ix l3) (nI 0))) (pc' := 47) (ls' := [(0, aR 39 0), (2, aI l2), (3, aI l3)]) (st' := []) (cs' := [vp_in l3 5, allw 43 (ix l2)]) (fun _ => rfl) rfl (al2 (vin hc13) (al1 rfl)) ?_
            replace h := wr_some h
            generalize (sI Y 43 (ix l2) (ix l3) (nI 0)) = Y14 at h ⊢
            refine w_sg k26 4 (pc' := 53) (ls' := [(0, aR 39 0), (2, aI l2), (3, aI l3)]) (st' := [aR 45 (ix l2)]) (cs' := [vp_in l2 5]) (fun _ => rfl) (al1 (vin hc12)) ?_
            refine w_sw k26 3 (Z := (sI Y14 45 (ix l2) (ix l3) (nI 0))) (pc' := 56) (ls' := [(0, aR 39 0), (2, aI l2), (3, aI l3)]) (st' := []) (cs' := [vp_in l3 5, allw 45 (ix l2)]) (fun _ => rfl) rfl (al2 (vin hc13) (al1 rfl)) ?_
            replace h := wr_some h
            generalize (sI Y14 45 (ix l2) (ix l3) (nI 0)) = Y15 at h ⊢
            refine w_sg k26 1 (pc' := 59) (ls' := [(0, aR 39 0), (2, aI l2), (3, aI (l3 + (nI 1)))]) (st' := []) (cs' := []) (fun _ => rfl) al0 ?_
            refine w_sg k26 1 (pc' := 33) (ls' := [(0, aR 39 0), (2, aI l2), (3, aI (l3 + (nI 1)))]) (st' := []) (cs' := []) (fun _ => rfl) al0 ?_
            refine w_ls [(0, aR 39 0), (2, aI l2), (3, aI (l3 + (nI 1)))] (lq_c rfl (lq_c rfl (lq_c rfl lq_n))) ?_
            obtain rfl := Option.some.inj h
            exact ih11 _ _ (lpn_l hn10)
      refine w_sg k26 2 (pc' := 14) (ls' := [(0, aR 39 0), (2, aI l2)]) (st' := [aI (nI 5), aI l2]) (cs' := []) (fun _ => rfl) al0 ?_
      refine w_icmp_ge k26 rfl (fun c => ?_) (fun c => ?_)
      · replace h := if_t c h
        obtain rfl := Option.some.inj h
        obtain rfl := lpn_r hn4
        exact w_return k26 ⟨rfl, rfl⟩
      · replace h := if_f c h
        obtain ⟨hc6, h⟩ := ck_some h
        refine w_sw k26 5 (Z := (sI Y 40 0 (ix l2) (nI 0))) (pc' := 24) (ls' := [(0, aR 39 0), (2, aI l2)]) (st' := []) (cs' := [vp_in l2 5, allw 40 0]) (fun _ => rfl) rfl (al2 (vin hc6) (al1 rfl)) ?_
        replace h := wr_some h
        generalize (sI Y 40 0 (ix l2) (nI 0)) = Y7 at h ⊢
        refine w_sw k26 5 (Z := (sI Y7 41 0 (ix l2) (nI 0))) (pc' := 31) (ls' := [(0, aR 39 0), (2, aI l2)]) (st' := []) (cs' := [vp_in l2 5, allw 41 0]) (fun _ => rfl) rfl (al2 (vin hc6) (al1 rfl)) ?_
        replace h := wr_some h
        generalize (sI Y7 41 0 (ix l2) (nI 0)) = Y8 at h ⊢
        refine w_sg k26 2 (pc' := 33) (ls' := [(0, aR 39 0), (2, aI l2), (3, aI (nI 0))]) (st' := []) (cs' := []) (fun _ => rfl) al0 ?_
        refine w_ls [(0, aR 39 0), (2, aI l2), (3, aI (nI 0))] (lq_c rfl (lq_c rfl (lq_c rfl lq_n))) ?_
        exact L33_0 _ _ _ _ h
  refine w_sw k26 3 (Z := (sI Y 39 0 0 a1)) (pc' := 5) (ls' := [(0, aR 39 0), (1, aI a1)]) (st' := []) (cs' := [allw 39 0]) (fun _ => rfl) rfl (al1 rfl) ?_
  replace h := wr_some h
  generalize (sI Y 39 0 0 a1) = Y1 at h ⊢
  refine w_sw k26 3 (Z := (sI Y1 39 0 1 (nI 0))) (pc' := 10) (ls' := [(0, aR 39 0), (1, aI a1)]) (st' := []) (cs' := [allw 39 0]) (fun _ => rfl) rfl (al1 rfl) ?_
  replace h := wr_some h
  generalize (sI Y1 39 0 1 (nI 0)) = Y2 at h ⊢
  refine w_sg k26 2 (pc' := 12) (ls' := [(0, aR 39 0), (1, aI a1), (2, aI (nI 0))]) (st' := []) (cs' := []) (fun _ => rfl) al0 ?_
  refine w_ls [(0, aR 39 0), (2, aI (nI 0))] (lq_c rfl (lq_c rfl lq_n)) ?_
  exact L12_0 _ _ _ h
set_option maxRecDepth 20000 in
set_option maxHeartbeats 4000000 in
/-- BallotBus$Poll.addBallot -/
theorem sn_27 (i1 : Nat) (a2 : Int32) {Y : Sm} (v : Unit) (Z : Sm) (h : fn_27 i1 a2 Y = some (v, Z)) : Mt 4 0 27 [aR 39 0, aR 27 i1, aI a2] Y (Rt none Z) nX := by
  refine Mt_of [(0, aR 39 0), (1, aR 27 i1), (2, aI a2)] ?_
  generalize ho : (v, Z) = o at h
  have hv9 : v = o.1 := congrArg Prod.fst ho
  have hZ9 : Z = o.2 := congrArg Prod.snd ho
  clear ho
  subst hv9 hZ9
  unfold fn_27 at h
  have L12_0 : ∀ (l1 : Nat) (l2 : Int32) (n : Nat) (l3 : Int32) (Y : Sm), lp (fun s => fn_27_L12 l1 l2 s.1 s.2) n (l3, Y) = some o → Wm 4 0 27 0 12 [(0, aR 39 0), (1, aR 27 l1), (2, aI l2), (3, aI l3)] [] Y (Rt none o.2) nX := by
    intro l1 l2 n
    induction n with
    | zero => intro l3 Y h; cases h
    | succ n ih4 =>
      intro l3 Y h
      obtain ⟨q2, h, hn3⟩ := lp_succ h
      replace h : fn_27_L12 l1 l2 l3 Y = some q2 := h
      unfold fn_27_L12 at h
      have L63_0 : ∀ (l3 : Int32) (l4 : Int32) (n : Nat) (l5 : Int32) (Y : Sm), lp (fun s => fn_27_L63_d1 l1 l2 l3 l4 s.1 s.2) n (l5, Y) = some q2 → Wm 4 0 27 0 63 [(0, aR 39 0), (1, aR 27 l1), (2, aI l2), (3, aI l3), (4, aI l4), (5, aI l5)] [] Y (Rt none o.2) nX := by
        intro l3 l4 n
        induction n with
        | zero => intro l5 Y h; cases h
        | succ n ih11 =>
          intro l5 Y h
          obtain ⟨q9, h, hn10⟩ := lp_succ h
          replace h : fn_27_L63_d1 l1 l2 l3 l4 l5 Y = some q9 := h
          unfold fn_27_L63_d1 at h
          refine w_sg k27 3 (pc' := 69) (ls' := [(0, aR 39 0), (1, aR 27 l1), (2, aI l2), (3, aI l3), (4, aI l4), (5, aI l5)]) (st' := [aI (gI Y.1 39 0 0), aI l5]) (cs' := []) (fun _ => rfl) al0 ?_
          refine w_icmp_ge k27 rfl (fun c => ?_) (fun c => ?_)
          · replace h := if_t c h
            refine w_sg k27 1 (pc' := 97) (ls' := [(0, aR 39 0), (1, aR 27 l1), (2, aI l2), (3, aI (l3 + (nI 1))), (4, aI l4), (5, aI l5)]) (st' := []) (cs' := []) (fun _ => rfl) al0 ?_
            refine w_sg k27 1 (pc' := 12) (ls' := [(0, aR 39 0), (1, aR 27 l1), (2, aI l2), (3, aI (l3 + (nI 1))), (4, aI l4), (5, aI l5)]) (st' := []) (cs' := []) (fun _ => rfl) al0 ?_
            refine w_ls [(0, aR 39 0), (1, aR 27 l1), (2, aI l2), (3, aI (l3 + (nI 1)))] (lq_c rfl (lq_c rfl (lq_c rfl (lq_c rfl lq_n)))) ?_
            obtain rfl := Option.some.inj h
            obtain rfl := lpn_r hn10
            exact ih4 _ _ (lpn_l hn3)
          · replace h := if_f c h
            obtain ⟨hc12, h⟩ := ck_some h
            refine w_sg k27 4 (pc' := 79) (ls' := [(0, aR 39 0), (1, aR 27 l1), (2, aI l2), (3, aI l3), (4, aI l4), (5, aI l5)]) (st' := [aR 45 (ix l4)]) (cs' := [vp_in l4 5]) (fun _ => rfl) (al1 (vin hc12)) ?_
            obtain ⟨hc13, h⟩ := ck_some h
            obtain ⟨hc14, h⟩ := ck_some h
            refine w_sw k27 8 (Z := (sI Y 45 (ix l4) (ix (gI Y.1 27 l1 (ix l5))) ((gI Y.1 45 (ix l4) (ix (gI Y.1 27 l1 (ix l5)))) + l2))) (pc' := 88) (ls' := [(0, aR 39 0), (1, aR 27 l1), (2, aI l2), (3, aI l3), (4, aI l4), (5, aI l5)]) (st' := []) (cs' := [vp_in l5 5, vp_in (gI Y.1 27 l1 (ix l5)) 5, vp_in (gI Y.1 27 l1 (ix l5)) 5, allw 45 (ix l4)]) (fun _ => rfl) rfl (al2 (vin hc13) (al2 (vin hc14) (al2 (vin hc14) (al1 rfl)))) ?_
            replace h := wr_some h
            generalize (sI Y 45 (ix l4) (ix (gI Y.1 27 l1 (ix l5))) ((gI Y.1 45 (ix l4) (ix (gI Y.1 27 l1 (ix l5)))) + l2)) = Y15 at h ⊢
            refine w_sg k27 1 (pc' := 91) (ls' := [(0, aR 39 0), (1, aR 27 l1), (2, aI l2), (3, aI l3), (4, aI l4), (5, aI (l5 + (nI 1)))]) (st' := []) (cs' := []) (fun _ => rfl) al0 ?_
            refine w_sg k27 1 (pc' := 63) (ls' := [(0, aR 39 0), (1, aR 27 l1), (2, aI l2), (3, aI l3), (4, aI l4), (5, aI (l5 + (nI 1)))]) (st' := []) (cs' := []) (fun _ => rfl) al0 ?_
            refine w_ls [(0, aR 39 0), (1, aR 27 l1), (2, aI l2), (3, aI l3), (4, aI l4), (5, aI (l5 + (nI 1)))] (lq_c rfl (lq_c rfl (lq_c rfl (lq_c rfl (lq_c rfl (lq_c rfl lq_n)))))) ?_
            obtain rfl := Option.some.inj h
            exact ih11 _ _ (lpn_l hn10)
      refine w_sg k27 3 (pc' := 17) (ls' := [(0, aR 39 0), (1, aR 27 l1), (2, aI l2), (3, aI l3)]) (st' := [aI (gI Y.1 39 0 0), aI l3]) (cs' := []) (fun _ => rfl) al0 ?_
      refine w_icmp_ge k27 rfl (fun c => ?_) (fun c => ?_)
      · replace h := if_t c h
        obtain rfl := Option.some.inj h
        obtain rfl := lpn_r hn3
        exact w_return k27 ⟨rfl, rfl⟩
      · replace h := if_f c h
        obtain ⟨hc5, h⟩ := ck_some h
        refine w_sg k27 4 (pc' := 25) (ls' := [(0, aR 39 0), (1, aR 27 l1), (2, aI l2), (3, aI l3), (4, aI (gI Y.1 27 l1 (ix l3)))]) (st' := []) (cs' := [vp_in l3 5]) (fun _ => rfl) (al1 (vin hc5)) ?_
        obtain ⟨hc6, h⟩ := ck_some h
        refine w_sg k27 8 (pc' := 38) (ls' := [(0, aR 39 0), (1, aR 27 l1), (2, aI l2), (3, aI l3), (4, aI (gI Y.1 27 l1 (ix l3)))]) (st' := [aI (gI Y.1 39 0 0), aI l2, aI (gI Y.1 40 0 (ix (gI Y.1 27 l1 (ix l3)))), aI (gI Y.1 27 l1 (ix l3)), aR 40 0]) (cs' := [vp_in (gI Y.1 27 l1 (ix l3)) 5]) (fun _ => rfl) (al1 (vin hc6)) ?_
        refine w_sw k27 7 (Z := (sI Y 40 0 (ix (gI Y.1 27 l1 (ix l3))) ((gI Y.1 40 0 (ix (gI Y.1 27 l1 (ix l3)))) + (l2 * (((gI Y.1 39 0 0) - (nI 1)) - l3))))) (pc' := 45) (ls' := [(0, aR 39 0), (1, aR 27 l1), (2, aI l2), (3, aI l3), (4, aI (gI Y.1 27 l1 (ix l3)))]) (st' := []) (cs' := [vp_in (gI Y.1 27 l1 (ix l3)) 5, allw 40 0]) (fun _ => rfl) rfl (al2 (vin hc6) (al1 rfl)) ?_
        replace h := wr_some h
        generalize (sI Y 40 0 (ix (gI Y.1 27 l1 (ix l3))) ((gI Y.1 40 0 (ix (gI Y.1 27 l1 (ix l3)))) + (l2 * (((gI Y.1 39 0 0) - (nI 1)) - l3)))) = Y7 at h ⊢
        refine w_sg k27 4 (pc' := 52) (ls' := [(0, aR 39 0), (1, aR 27 l1), (2, aI l2), (3, aI l3), (4, aI (gI Y.1 27 l1 (ix l3)))]) (st' := [aR 43 (ix (gI Y.1 27 l1 (ix l3)))]) (cs' := [vp_in (gI Y.1 27 l1 (ix l3)) 5]) (fun _ => rfl) (al1 (vin hc6)) ?_
        refine w_sw k27 6 (Z := (sI Y7 43 (ix (gI Y.1 27 l1 (ix l3))) (ix l3) ((gI Y7.1 43 (ix (gI Y.1 27 l1 (ix l3))) (ix l3)) + l2))) (pc' := 58) (ls' := [(0, aR 39 0), (1, aR 27 l1), (2, aI l2), (3, aI l3), (4, aI (gI Y.1 27 l1 (ix l3)))]) (st' := []) (cs' := [vp_in l3 5, vp_in l3 5, allw 43 (ix (gI Y.1 27 l1 (ix l3)))]) (fun _ => rfl) rfl (al2 (vin hc5) (al2 (vin hc5) (al1 rfl))) ?_
        replace h := wr_some h
        generalize (sI Y7 43 (ix (gI Y.1 27 l1 (ix l3))) (ix l3) ((gI Y7.1 43 (ix (gI Y.1 27 l1 (ix l3))) (ix l3)) + l2)) = Y8 at h ⊢
        refine w_sg k27 4 (pc' := 63) (ls' := [(0, aR 39 0), (1, aR 27 l1), (2, aI l2), (3, aI l3), (4, aI (gI Y.1 27 l1 (ix l3))), (5, aI (l3 + (nI 1)))]) (st' := []) (cs' := []) (fun _ => rfl) al0 ?_
        refine w_ls [(0, aR 39 0), (1, aR 27 l1), (2, aI l2), (3, aI l3), (4, aI (gI Y.1 27 l1 (ix l3))), (5, aI (l3 + (nI 1)))] (lq_c rfl (lq_c rfl (lq_c rfl (lq_c rfl (lq_c rfl (lq_c rfl lq_n)))))) ?_
        exact L63_0 _ _ _ _ _ h
  refine w_sw k27 6 (Z := (sI Y 39 0 1 ((gI Y.1 39 0 1) + a2))) (pc' := 10) (ls' := [(0, aR 39 0), (1, aR 27 i1), (2, aI a2)]) (st' := []) (cs' := [allw 39 0]) (fun _ => rfl) rfl (al1 rfl) ?_
  replace h := wr_some h
  generalize (sI Y 39 0 1 ((gI Y.1 39 0 1) + a2)) = Y1 at h ⊢
  refine w_sg k27 2 (pc' := 12) (ls' := [(0, aR 39 0), (1, aR 27 i1), (2, aI a2), (3, aI (nI 0))]) (st' := []) (cs' := []) (fun _ => rfl) al0 ?_
  refine w_ls [(0, aR 39 0), (1, aR 27 i1), (2, aI a2), (3, aI (nI 0))] (lq_c rfl (lq_c rfl (lq_c rfl (lq_c rfl lq_n)))) ?_
  exact L12_0 _ _ _ _ _ h
set_option maxRecDepth 20000 in
set_option maxHeartbeats 4000000 in
/-- BallotBus$Poll.defeats -/
theorem sn_28 (a1 : Int32) (a2 : Int32) {Y : Sm} (v : Int32) (Z : Sm) (h : fn_28 a1 a2 Y = some (v, Z)) : Mt 4 0 28 [aR 39 0, aI a1, aI a2] Y (Rt (some (aI v)) Z) nX := by
  refine Mt_of [(0, aR 39 0), (1, aI a1), (2, aI a2)] ?_
  generalize ho : (v, Z) = o at h
  have hv9 : v = o.1 := congrArg Prod.fst ho
  have hZ9 : Z = o.2 := congrArg Prod.snd ho
  clear ho
  subst hv9 hZ9
  unfold fn_28 at h
  obtain ⟨hc1, h⟩ := ck_some h
  refine w_sg k28 4 (pc' := 6) (ls' := [(0, aR 39 0), (1, aI a1), (2, aI a2)]) (st' := [aR 45 (ix a1)]) (cs' := [vp_in a1 5]) (fun _ => rfl) (al1 (vin hc1)) ?_
  obtain ⟨hc2, h⟩ := ck_some h
  refine w_sg k28 6 (pc' := 14) (ls' := [(0, aR 39 0), (1, aI a1), (2, aI a2)]) (st' := [aR 45 (ix a2), aI (gI Y.1 45 (ix a1) (ix a2))]) (cs' := [vp_in a2 5, vp_in a2 5]) (fun _ => rfl) (al2 (vin hc2) (al1 (vin hc2))) ?_
  refine w_sg k28 2 (pc' := 16) (ls' := [(0, aR 39 0), (1, aI a1), (2, aI a2)]) (st' := [aI (gI Y.1 45 (ix a2) (ix a1)), aI (gI Y.1 45 (ix a1) (ix a2))]) (cs' := [vp_in a1 5]) (fun _ => rfl) (al1 (vin hc1)) ?_
  refine w_icmp_le k28 rfl (fun c => ?_) (fun c => ?_)
  · replace h := if_t c h
    refine w_sg k28 1 (pc' := 24) (ls' := [(0, aR 39 0), (1, aI a1), (2, aI a2)]) (st' := [aI (nI 0)]) (cs' := []) (fun _ => rfl) al0 ?_
    obtain rfl := Option.some.inj h
    exact w_zreturn k28 (Or.inl rfl) ⟨rfl, rfl⟩
  · replace h := if_f c h
    refine w_sg k28 2 (pc' := 24) (ls' := [(0, aR 39 0), (1, aI a1), (2, aI a2)]) (st' := [aI (nI 1)]) (cs' := []) (fun _ => rfl) al0 ?_
    obtain rfl := Option.some.inj h
    exact w_zreturn k28 (Or.inr rfl) ⟨rfl, rfl⟩
