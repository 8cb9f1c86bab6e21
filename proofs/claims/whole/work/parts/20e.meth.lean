/-! the code of the methods does what their functions say (printed by wip/whole/gen20.py) -/
set_option maxRecDepth 20000 in
set_option maxHeartbeats 4000000 in
/-- BallotBus.middle -/
theorem sn_129 (a1 : Int32) {Y : Sm} (v : (Int32 ⊕ Nat)) (Z : Sm) (h : fn_129 a1 Y = some (v, Z)) : Mt 7 1 129 [aR 0 0, aI a1] Y (Pz (fun v => some (aI v)) v Z) (Ez v Z) := by
  refine Mt_of [(0, aR 0 0), (1, aI a1)] ?_
  generalize ho : (v, Z) = o at h
  have hv9 : v = o.1 := congrArg Prod.fst ho
  have hZ9 : Z = o.2 := congrArg Prod.snd ho
  clear ho
  subst hv9 hZ9
  unfold fn_129 at h
  have L31_1 : ∀ (l1 : Int32) (n : Nat) (l2 : Int32) (l3 : Int32) (l4 : Int32) (Y : Sm), lp (fun s => fn_129_L31_1 l1 s.1 s.2.1 s.2.2.1 s.2.2.2) n (l2, l3, l4, Y) = some o → Wm 7 1 129 1 31 [(0, aR 0 0), (1, aI l1), (2, aI l2), (3, aI l3), (4, aI l4)] [] Y (Pz (fun v => some (aI v)) o.1 o.2) (Ez o.1 o.2) := by
    intro l1 n
    induction n with
    | zero => intro l2 l3 l4 Y h; cases h
    | succ n ih9 =>
      intro l2 l3 l4 Y h
      obtain ⟨q7, h, hn8⟩ := lp_succ h
      replace h : fn_129_L31_1 l1 l2 l3 l4 Y = some q7 := h
      unfold fn_129_L31_1 at h
      have J66_1 : ∀ (l4 : Int32) (l5 : Int32) (Y : Sm), fn_129_J66_1_d1 l1 l4 l5 Y = some q7 → Wm 7 1 129 1 66 [(0, aR 0 0), (1, aI l1), (4, aI l4), (5, aI l5)] [] Y (Pz (fun v => some (aI v)) o.1 o.2) (Ez o.1 o.2) := by
        intro l4 l5 Y h
        unfold fn_129_J66_1_d1 at h
        refine w_sg k129 6 (pc' := 77) (ls' := [(0, aR 0 0), (1, aI l1), (4, aI l4), (5, aI l5), (2, aI l5)]) (st' := [aR 47 0, aR 46 0]) (cs' := []) (fun _ => rfl) al0 ?_
        obtain ⟨_, Y15, hv16, h⟩ := bd_some h
        refine w_cS0 k129 (sn_44_46_47  _ _ hv16) rfl (st := []) rfl ?_ (fun _ _ q => q.elim)
        refine w_sg k129 5 (pc' := 91) (ls' := [(0, aR 0 0), (1, aI l1), (4, aI l4), (5, aI l5), (2, aI l5)]) (st' := [aI (gI Y15.1 5 (Y15.2 0) 0), aR 46 0]) (cs' := []) (fun _ => rfl) al0 ?_
        obtain ⟨v19, Y17, hv18, h⟩ := bd_some h
        refine w_cS1 k129 (sn_47 _ _ _ hv18) rfl (st := []) rfl ?_ (fun _ _ q => q.elim)
        refine w_sg k129 3 (pc' := 31) (ls' := [(0, aR 0 0), (1, aI l1), (4, aI (l4 + (nI 1))), (5, aI l5), (2, aI l5), (3, aI v19)]) (st' := []) (cs' := []) (fun _ => rfl) al0 ?_
        refine w_ls [(0, aR 0 0), (1, aI l1), (2, aI l5), (3, aI v19), (4, aI (l4 + (nI 1)))] (lq_c rfl (lq_c rfl (lq_c rfl (lq_c rfl (lq_c rfl lq_n))))) ?_
        obtain rfl := Option.some.inj h
        exact ih9 _ _ _ _ (lpn_l hn8)
      refine w_sg k129 1 (pc' := 32) (ls' := [(0, aR 0 0), (1, aI l1), (2, aI l2), (3, aI l3), (4, aI l4)]) (st' := [aI l3]) (cs' := []) (fun _ => rfl) al0 ?_
      refine w_if_eq k129 rfl (fun c => ?_) (fun c => ?_)
      · replace h := if_t c h
        obtain ⟨hc10, h⟩ := ck_some h
        refine w_sg k129 4 (pc' := 107) (ls' := [(0, aR 0 0), (1, aI l1), (2, aI l2), (3, aI l3), (4, aI l4)]) (st' := [aI (gI Y.1 47 0 (ix l1))]) (cs' := [vp_in l1 5]) (fun _ => rfl) (al1 (vin hc10)) ?_
        obtain rfl := Option.some.inj h
        obtain rfl := lpn_r hn8
        exact w_ireturn k129 Pz_l
      · replace h := if_f c h
        refine w_sg k129 2 (pc' := 39) (ls' := [(0, aR 0 0), (1, aI l1), (2, aI l2), (3, aI l3), (4, aI l4)]) (st' := [aI (nI 120), aI l4]) (cs' := []) (fun _ => rfl) al0 ?_
        refine w_icmp_ge k129 rfl (fun c => ?_) (fun c => ?_)
        · replace h := if_t c h
          obtain ⟨hc11, h⟩ := ck_some h
          refine w_sg k129 4 (pc' := 107) (ls' := [(0, aR 0 0), (1, aI l1), (2, aI l2), (3, aI l3), (4, aI l4)]) (st' := [aI (gI Y.1 47 0 (ix l1))]) (cs' := [vp_in l1 5]) (fun _ => rfl) (al1 (vin hc11)) ?_
          obtain rfl := Option.some.inj h
          obtain rfl := lpn_r hn8
          exact w_ireturn k129 Pz_l
        · replace h := if_f c h
          refine w_sg k129 4 (pc' := 50) (ls' := [(0, aR 0 0), (1, aI l1), (2, aI l2), (3, aI l3), (4, aI l4)]) (st' := [aR 46 0, aR 39 0]) (cs' := []) (fun _ => rfl) al0 ?_
          obtain ⟨v14, Y12, hv13, h⟩ := bd_some h
          refine w_cV1 k129 (sn_29  _ _ hv13) rfl (st := []) rfl ?_ (fun _ _ q => q.elim)
          refine w_sg k129 3 (pc' := 57) (ls' := [(0, aR 0 0), (1, aI l1), (2, aI l2), (3, aI l3), (4, aI l4), (5, aI v14)]) (st' := [aI (-1 : Int32), aI l2]) (cs' := []) (fun _ => rfl) al0 ?_
          refine w_icmp_eq k129 rfl (fun c => ?_) (fun c => ?_)
          · replace h := if_t c h
            refine w_ls [(0, aR 0 0), (1, aI l1), (4, aI l4), (5, aI v14)] (lq_c rfl (lq_c rfl (lq_c rfl (lq_c rfl lq_n)))) ?_
            exact J66_1 _ _ _ h
          · replace h := if_f c h
            refine w_sg k129 2 (pc' := 63) (ls' := [(0, aR 0 0), (1, aI l1), (2, aI l2), (3, aI l3), (4, aI l4), (5, aI v14)]) (st' := [aI l2, aI v14]) (cs' := []) (fun _ => rfl) al0 ?_
            refine w_icmp_ge k129 rfl (fun c => ?_) (fun c => ?_)
            · replace h := if_t c h
              refine w_sg k129 5 (pc' := 91) (ls' := [(0, aR 0 0), (1, aI l1), (2, aI l2), (3, aI l3), (4, aI l4), (5, aI v14)]) (st' := [aI (gI Y12.1 5 (Y12.2 0) 0), aR 46 0]) (cs' := []) (fun _ => rfl) al0 ?_
              obtain ⟨v22, Y20, hv21, h⟩ := bd_some h
              refine w_cS1 k129 (sn_47 _ _ _ hv21) rfl (st := []) rfl ?_ (fun _ _ q => q.elim)
              refine w_sg k129 3 (pc' := 31) (ls' := [(0, aR 0 0), (1, aI l1), (2, aI l2), (3, aI v22), (4, aI (l4 + (nI 1))), (5, aI v14)]) (st' := []) (cs' := []) (fun _ => rfl) al0 ?_
              refine w_ls [(0, aR 0 0), (1, aI l1), (2, aI l2), (3, aI v22), (4, aI (l4 + (nI 1)))] (lq_c rfl (lq_c rfl (lq_c rfl (lq_c rfl (lq_c rfl lq_n))))) ?_
              obtain rfl := Option.some.inj h
              exact ih9 _ _ _ _ (lpn_l hn8)
            · replace h := if_f c h
              refine w_ls [(0, aR 0 0), (1, aI l1), (4, aI l4), (5, aI v14)] (lq_c rfl (lq_c rfl (lq_c rfl (lq_c rfl lq_n)))) ?_
              exact J66_1 _ _ _ h
  refine w_sg k129 2 (pc' := 2) (ls' := [(0, aR 0 0), (1, aI a1)]) (st' := [aI a1, aR 0 0]) (cs' := []) (fun _ => rfl) al0 ?_
  obtain ⟨o24, Y1, hv2, ⟨_, ho25, h⟩ | ⟨x23, ho25, h⟩⟩ := bx_some h
  · subst ho25
    refine w_cV0 k129 (sn_155 _ _ _ hv2) rfl (st := []) rfl ?_ (fun _ _ q => q.elim)
    refine w_sg k129 5 (pc' := 14) (ls' := [(0, aR 0 0), (1, aI a1)]) (st' := [aI (-1 : Int32), aR 21 0, aR 39 0]) (cs' := []) (fun _ => rfl) al0 ?_
    obtain ⟨_, Y3, hv4, h⟩ := bd_some h
    refine w_cV0 k129 (sn_25 _ _ _ _ hv4) rfl (st := []) rfl ?_ (fun _ _ q => q.elim)
    refine w_sg k129 2 (pc' := 21) (ls' := [(0, aR 0 0), (1, aI a1)]) (st' := [aR 46 0]) (cs' := []) (fun _ => rfl) al0 ?_
    obtain ⟨_, Y5, hv6, h⟩ := bd_some h
    refine w_cS0 k129 (sn_43_46  _ _ hv6) rfl (st := []) rfl ?_ (fun _ _ q => q.elim)
    refine w_sg k129 6 (pc' := 31) (ls' := [(0, aR 0 0), (1, aI a1), (2, aI (-1 : Int32)), (3, aI (nI 1)), (4, aI (nI 0))]) (st' := []) (cs' := []) (fun _ => rfl) al0 ?_
    refine w_ls [(0, aR 0 0), (1, aI a1), (2, aI (-1 : Int32)), (3, aI (nI 1)), (4, aI (nI 0))] (lq_c rfl (lq_c rfl (lq_c rfl (lq_c rfl (lq_c rfl lq_n))))) ?_
    exact L31_1 _ _ _ _ _ _ h
  · subst ho25
    obtain rfl := Option.some.inj h
    exact w_xcallV k129 (sn_155 _ _ _ hv2) rfl (st := []) rfl Ez_r
set_option maxRecDepth 20000 in
set_option maxHeartbeats 4000000 in
/-- BallotBus.meanWait -/
theorem sn_130 (a1 : Int32) {Y : Sm} (v : (UInt64 ⊕ Nat)) (Z : Sm) (h : fn_130 a1 Y = some (v, Z)) : Mt 7 1 130 [aR 0 0, aI a1] Y (Pz (fun v => some (aD v)) v Z) (Ez v Z) := by
  refine Mt_of [(0, aR 0 0), (1, aI a1)] ?_
  generalize ho : (v, Z) = o at h
  have hv9 : v = o.1 := congrArg Prod.fst ho
  have hZ9 : Z = o.2 := congrArg Prod.snd ho
  clear ho
  subst hv9 hZ9
  unfold fn_130 at h
  refine w_sg k130 2 (pc' := 2) (ls' := [(0, aR 0 0), (1, aI a1)]) (st' := [aI a1, aR 0 0]) (cs' := []) (fun _ => rfl) al0 ?_
  obtain ⟨o6, Y1, hv2, ⟨_, ho7, h⟩ | ⟨x5, ho7, h⟩⟩ := bx_some h
  · subst ho7
    refine w_cV0 k130 (sn_155 _ _ _ hv2) rfl (st := []) rfl ?_ (fun _ _ q => q.elim)
    obtain ⟨hc3, h⟩ := ck_some h
    refine w_sg k130 7 (pc' := 16) (ls' := [(0, aR 0 0), (1, aI a1), (2, aI (gI Y1.1 24 0 (ix a1)))]) (st' := [aI (gI Y1.1 24 0 (ix a1))]) (cs' := [vp_in a1 5]) (fun _ => rfl) (al1 (vin hc3)) ?_
    refine w_if_ne k130 rfl (fun c => ?_) (fun c => ?_)
    · replace h := if_f c h
      obtain ⟨hc4, h⟩ := ck_some h
      refine w_sg k130 9 (pc' := 36) (ls' := [(0, aR 0 0), (1, aI a1), (2, aI (gI Y1.1 24 0 (ix a1)))]) (st' := [aD (FP.ddiv (FP.l2d (gJ Y1.1 25 0 (ix a1))) (FP.i2d (gI Y1.1 24 0 (ix a1))))]) (cs' := [vp_in a1 5, vf_n64 (FP.ddiv (FP.l2d (gJ Y1.1 25 0 (ix a1))) (FP.i2d (gI Y1.1 24 0 (ix a1))))]) (fun _ => rfl) (al2 (vin hc3) (al1 (nn64_of hc4))) ?_
      obtain rfl := Option.some.inj h
      exact w_dreturn k130 Pz_l
    · replace h := if_t c h
      refine w_sg k130 2 (pc' := 36) (ls' := [(0, aR 0 0), (1, aI a1), (2, aI (gI Y1.1 24 0 (ix a1)))]) (st' := [aD FP.dconst0]) (cs' := []) (fun _ => rfl) al0 ?_
      obtain rfl := Option.some.inj h
      exact w_dreturn k130 Pz_l
  · subst ho7
    obtain rfl := Option.some.inj h
    exact w_xcallV k130 (sn_155 _ _ _ hv2) rfl (st := []) rfl Ez_r
set_option maxRecDepth 20000 in
set_option maxHeartbeats 4000000 in
/-- BallotBus.share -/
theorem sn_131 (a1 : Int32) {Y : Sm} (v : (UInt32 ⊕ Nat)) (Z : Sm) (h : fn_131 a1 Y = some (v, Z)) : Mt 7 1 131 [aR 0 0, aI a1] Y (Pz (fun v => some (aF v)) v Z) (Ez v Z) := by
  refine Mt_of [(0, aR 0 0), (1, aI a1)] ?_
  generalize ho : (v, Z) = o at h
  have hv9 : v = o.1 := congrArg Prod.fst ho
  have hZ9 : Z = o.2 := congrArg Prod.snd ho
  clear ho
  subst hv9 hZ9
  unfold fn_131 at h
  have L9_1 : ∀ (l1 : Int32) (n : Nat) (l2 : Int32) (l3 : Int32) (Y : Sm) (e6 : (Int32 × Sm) ⊕ ((UInt32 ⊕ Nat) × Sm)), lp (fun s => fn_131_L9_1 l1 s.1 s.2.1 s.2.2) n (l2, l3, Y) = some e6 → (∀ s9 : (Int32 × Sm), e6 = .inl s9 → Wm 7 1 131 1 41 [(0, aR 0 0), (1, aI l1), (2, aI s9.1)] [] s9.2 (Pz (fun v => some (aF v)) o.1 o.2) (Ez o.1 o.2)) → (∀ r, e6 = .inr r → r = o) → Wm 7 1 131 1 9 [(0, aR 0 0), (1, aI l1), (2, aI l2), (3, aI l3)] [] Y (Pz (fun v => some (aF v)) o.1 o.2) (Ez o.1 o.2) := by
    intro l1 n
    induction n with
    | zero => intro l2 l3 Y e6 h; cases h
    | succ n ih5 =>
      intro l2 l3 Y e6 h kE7 kR8
      obtain ⟨q3, h, hn4⟩ := lp_succ h
      replace h : fn_131_L9_1 l1 l2 l3 Y = some q3 := h
      unfold fn_131_L9_1 at h
      refine w_sg k131 4 (pc' := 17) (ls' := [(0, aR 0 0), (1, aI l1), (2, aI l2), (3, aI l3)]) (st' := [aI (gI Y.1 5 (Y.2 0) 3), aI l3]) (cs' := []) (fun _ => rfl) al0 ?_
      refine w_icmp_ge k131 rfl (fun c => ?_) (fun c => ?_)
      · replace h := if_t c h
        refine w_ls [(0, aR 0 0), (1, aI l1), (2, aI l2)] (lq_c rfl (lq_c rfl (lq_c rfl lq_n))) ?_
        obtain rfl := Option.some.inj h
        obtain rfl := lpn_r hn4
        exact kE7 _ rfl
      · replace h := if_f c h
        obtain ⟨hc9, h⟩ := ck_some h
        refine w_sg k131 11 (pc' := 9) (ls' := [(0, aR 0 0), (1, aI l1), (2, aI (l2 + (gI Y.1 33 0 (ix l3)))), (3, aI (l3 + (nI 1)))]) (st' := []) (cs' := [vp_in l3 8]) (fun _ => rfl) (al1 (vin hc9)) ?_
        refine w_ls [(0, aR 0 0), (1, aI l1), (2, aI (l2 + (gI Y.1 33 0 (ix l3)))), (3, aI (l3 + (nI 1)))] (lq_c rfl (lq_c rfl (lq_c rfl (lq_c rfl lq_n)))) ?_
        obtain rfl := Option.some.inj h
        exact ih5 _ _ _ _ (lpn_l hn4) kE7 kR8
  have J41_1 : ∀ (l1 : Int32) (l2 : Int32) (Y : Sm), fn_131_J41_1 l1 l2 Y = some o → Wm 7 1 131 1 41 [(0, aR 0 0), (1, aI l1), (2, aI l2)] [] Y (Pz (fun v => some (aF v)) o.1 o.2) (Ez o.1 o.2) := by
    intro l1 l2 Y h
    unfold fn_131_J41_1 at h
    refine w_sg k131 1 (pc' := 42) (ls' := [(0, aR 0 0), (1, aI l1), (2, aI l2)]) (st' := [aI l2]) (cs' := []) (fun _ => rfl) al0 ?_
    refine w_if_ne k131 rfl (fun c => ?_) (fun c => ?_)
    · replace h := if_f c h
      obtain ⟨hc10, h⟩ := ck_some h
      obtain ⟨hc11, h⟩ := ck_some h
      refine w_sg k131 10 (pc' := 65) (ls' := [(0, aR 0 0), (1, aI l1), (2, aI l2)]) (st' := [aF (FP.fdiv (FP.i2f (gI Y.1 33 0 (ix l1))) (FP.i2f l2))]) (cs' := [vp_in l1 8, vf_n32 (FP.fdiv (FP.i2f (gI Y.1 33 0 (ix l1))) (FP.i2f l2))]) (fun _ => rfl) (al2 (vin hc10) (al1 (nn32_of hc11))) ?_
      obtain rfl := Option.some.inj h
      exact w_freturn k131 Pz_l
    · replace h := if_t c h
      refine w_sg k131 2 (pc' := 65) (ls' := [(0, aR 0 0), (1, aI l1), (2, aI l2)]) (st' := [aF FP.fconst0]) (cs' := []) (fun _ => rfl) al0 ?_
      obtain rfl := Option.some.inj h
      exact w_freturn k131 Pz_l
  refine w_sg k131 2 (pc' := 2) (ls' := [(0, aR 0 0), (1, aI a1)]) (st' := [aI a1, aR 0 0]) (cs' := []) (fun _ => rfl) al0 ?_
  obtain ⟨o16, Y1, hv2, ⟨_, ho17, h⟩ | ⟨x15, ho17, h⟩⟩ := bx_some h
  · subst ho17
    refine w_cV0 k131 (sn_154 _ _ _ hv2) rfl (st := []) rfl ?_ (fun _ _ q => q.elim)
    refine w_sg k131 4 (pc' := 9) (ls' := [(0, aR 0 0), (1, aI a1), (2, aI (nI 0)), (3, aI (nI 0))]) (st' := []) (cs' := []) (fun _ => rfl) al0 ?_
    obtain ⟨e14, hl12, hx13⟩ := exd_some h
    refine w_ls [(0, aR 0 0), (1, aI a1), (2, aI (nI 0)), (3, aI (nI 0))] (lq_c rfl (lq_c rfl (lq_c rfl (lq_c rfl lq_n)))) ?_
    refine L9_1 _ _ _ _ _ e14 hl12 (fun s9 hs9 => ?_) (fun r9 hr9 => ?_)
    · subst hs9
      replace h : fn_131_J41_1 a1 s9.1 s9.2 = some o := hx13
      refine w_ls [(0, aR 0 0), (1, aI a1), (2, aI s9.1)] (lq_c rfl (lq_c rfl (lq_c rfl lq_n))) ?_
      exact J41_1 _ _ _ h
    · subst hr9
      exact hx13
  · subst ho17
    obtain rfl := Option.some.inj h
    exact w_xcallV k131 (sn_154 _ _ _ hv2) rfl (st := []) rfl Ez_r
set_option maxRecDepth 20000 in
set_option maxHeartbeats 4000000 in
/-- BallotBus.debts -/
theorem sn_132 {Y : Sm} (v : Int32) (Z : Sm) (h : fn_132 Y = some (v, Z)) : Mt 4 0 132 [aR 0 0] Y (Rt (some (aI v)) Z) nX := by
  refine Mt_of [(0, aR 0 0)] ?_
  generalize ho : (v, Z) = o at h
  have hv9 : v = o.1 := congrArg Prod.fst ho
  have hZ9 : Z = o.2 := congrArg Prod.snd ho
  clear ho
  subst hv9 hZ9
  unfold fn_132 at h
  have L4_0 : ∀ (n : Nat) (l1 : Int32) (l2 : Int32) (Y : Sm), lp (fun s => fn_132_L4 s.1 s.2.1 s.2.2) n (l1, l2, Y) = some o → Wm 4 0 132 0 4 [(0, aR 0 0), (1, aI l1), (2, aI l2)] [] Y (Rt (some (aI o.1)) o.2) nX := by
    intro n
    induction n with
    | zero => intro l1 l2 Y h; cases h
    | succ n ih3 =>
      intro l1 l2 Y h
      obtain ⟨q1, h, hn2⟩ := lp_succ h
      replace h : fn_132_L4 l1 l2 Y = some q1 := h
      unfold fn_132_L4 at h
      refine w_sg k132 4 (pc' := 12) (ls' := [(0, aR 0 0), (1, aI l1), (2, aI l2)]) (st' := [aI (gI Y.1 5 (Y.2 0) 3), aI l2]) (cs' := []) (fun _ => rfl) al0 ?_
      refine w_icmp_ge k132 rfl (fun c => ?_) (fun c => ?_)
      · replace h := if_t c h
        refine w_sg k132 1 (pc' := 37) (ls' := [(0, aR 0 0), (1, aI l1), (2, aI l2)]) (st' := [aI l1]) (cs' := []) (fun _ => rfl) al0 ?_
        obtain rfl := Option.some.inj h
        obtain rfl := lpn_r hn2
        exact w_ireturn k132 ⟨rfl, rfl⟩
      · replace h := if_f c h
        obtain ⟨hc4, h⟩ := ck_some h
        refine w_sg k132 11 (pc' := 4) (ls' := [(0, aR 0 0), (1, aI (l1 + (gI Y.1 30 0 (ix l2)))), (2, aI (l2 + (nI 1)))]) (st' := []) (cs' := [vp_in l2 8]) (fun _ => rfl) (al1 (vin hc4)) ?_
        refine w_ls [(0, aR 0 0), (1, aI (l1 + (gI Y.1 30 0 (ix l2)))), (2, aI (l2 + (nI 1)))] (lq_c rfl (lq_c rfl (lq_c rfl lq_n))) ?_
        obtain rfl := Option.some.inj h
        exact ih3 _ _ _ (lpn_l hn2)
  refine w_sg k132 4 (pc' := 4) (ls' := [(0, aR 0 0), (1, aI (nI 0)), (2, aI (nI 0))]) (st' := []) (cs' := []) (fun _ => rfl) al0 ?_
  refine w_ls [(0, aR 0 0), (1, aI (nI 0)), (2, aI (nI 0))] (lq_c rfl (lq_c rfl (lq_c rfl lq_n))) ?_
  exact L4_0 _ _ _ _ h
set_option maxRecDepth 20000 in
set_option maxHeartbeats 4000000 in
/-- BallotBus$Accounts.balance -/
theorem sn_3 (i0 : Nat) (a1 : Int32) {Y : Sm} (v : Int32) (Z : Sm) (h : fn_3 i0 a1 Y = some (v, Z)) : Mt 4 0 3 [aR 28 i0, aI a1] Y (Rt (some (aI v)) Z) nX := by
  refine Mt_of [(0, aR 28 i0), (1, aI a1)] ?_
  generalize ho : (v, Z) = o at h
  have hv9 : v = o.1 := congrArg Prod.fst ho
  have hZ9 : Z = o.2 := congrArg Prod.snd ho
  clear ho
  subst hv9 hZ9
  unfold fn_3 at h
  obtain ⟨hc1, h⟩ := ck_some h
  refine w_sg k3 9 (pc' := 13) (ls' := [(0, aR 28 i0), (1, aI a1)]) (st' := [aI ((gI Y.1 29 i0 (ix a1)) - (gI Y.1 30 i0 (ix a1)))]) (cs' := [vp_in a1 8, vp_in a1 8]) (fun _ => rfl) (al2 (vin hc1) (al1 (vin hc1))) ?_
  obtain rfl := Option.some.inj h
  exact w_ireturn k3 ⟨rfl, rfl⟩
set_option maxRecDepth 20000 in
set_option maxHeartbeats 4000000 in
/-- BallotBus.richest -/
theorem sn_133 {Y : Sm} (v : Int32) (Z : Sm) (h : fn_133 Y = some (v, Z)) : Mt 5 0 133 [aR 0 0] Y (Rt (some (aI v)) Z) nX := by
  refine Mt_of [(0, aR 0 0)] ?_
  generalize ho : (v, Z) = o at h
  have hv9 : v = o.1 := congrArg Prod.fst ho
  have hZ9 : Z = o.2 := congrArg Prod.snd ho
  clear ho
  subst hv9 hZ9
  unfold fn_133 at h
  have L4_0 : ∀ (n : Nat) (l1 : Int32) (l2 : Int32) (Y : Sm), lp (fun s => fn_133_L4 s.1 s.2.1 s.2.2) n (l1, l2, Y) = some o → Wm 5 0 133 0 4 [(0, aR 0 0), (1, aI l1), (2, aI l2)] [] Y (Rt (some (aI o.1)) o.2) nX := by
    intro n
    induction n with
    | zero => intro l1 l2 Y h; cases h
    | succ n ih3 =>
      intro l1 l2 Y h
      obtain ⟨q1, h, hn2⟩ := lp_succ h
      replace h : fn_133_L4 l1 l2 Y = some q1 := h
      unfold fn_133_L4 at h
      refine w_sg k133 4 (pc' := 12) (ls' := [(0, aR 0 0), (1, aI l1), (2, aI l2)]) (st' := [aI (gI Y.1 5 (Y.2 0) 3), aI l2]) (cs' := []) (fun _ => rfl) al0 ?_
      refine w_icmp_ge k133 rfl (fun c => ?_) (fun c => ?_)
      · replace h := if_t c h
        refine w_sg k133 1 (pc' := 49) (ls' := [(0, aR 0 0), (1, aI l1), (2, aI l2)]) (st' := [aI l1]) (cs' := []) (fun _ => rfl) al0 ?_
        obtain rfl := Option.some.inj h
        obtain rfl := lpn_r hn2
        exact w_ireturn k133 ⟨rfl, rfl⟩
      · replace h := if_f c h
        refine w_sg k133 4 (pc' := 23) (ls' := [(0, aR 0 0), (1, aI l1), (2, aI l2)]) (st' := [aI l2, aR 28 0]) (cs' := []) (fun _ => rfl) al0 ?_
        obtain ⟨v6, Y4, hv5, h⟩ := bd_some h
        refine w_cV1 k133 (sn_3 _ _ _ _ hv5) rfl (st := []) rfl ?_ (fun _ _ q => q.elim)
        refine w_sg k133 4 (pc' := 34) (ls' := [(0, aR 0 0), (1, aI l1), (2, aI l2)]) (st' := [aI l1, aR 28 0, aI v6]) (cs' := []) (fun _ => rfl) al0 ?_
        obtain ⟨v9, Y7, hv8, h⟩ := bd_some h
        refine w_cV1 k133 (sn_3 _ _ _ _ hv8) rfl (st := [aI v6]) rfl ?_ (fun _ _ q => q.elim)
        refine w_icmp_le k133 rfl (fun c => ?_) (fun c => ?_)
        · replace h := if_t c h
          refine w_sg k133 2 (pc' := 4) (ls' := [(0, aR 0 0), (1, aI l1), (2, aI (l2 + (nI 1)))]) (st' := []) (cs' := []) (fun _ => rfl) al0 ?_
          refine w_ls [(0, aR 0 0), (1, aI l1), (2, aI (l2 + (nI 1)))] (lq_c rfl (lq_c rfl (lq_c rfl lq_n))) ?_
          obtain rfl := Option.some.inj h
          exact ih3 _ _ _ (lpn_l hn2)
        · replace h := if_f c h
          refine w_sg k133 4 (pc' := 4) (ls' := [(0, aR 0 0), (1, aI l2), (2, aI (l2 + (nI 1)))]) (st' := []) (cs' := []) (fun _ => rfl) al0 ?_
          refine w_ls [(0, aR 0 0), (1, aI l2), (2, aI (l2 + (nI 1)))] (lq_c rfl (lq_c rfl (lq_c rfl lq_n))) ?_
          obtain rfl := Option.some.inj h
          exact ih3 _ _ _ (lpn_l hn2)
  refine w_sg k133 4 (pc' := 4) (ls' := [(0, aR 0 0), (1, aI (nI 0)), (2, aI (nI 1))]) (st' := []) (cs' := []) (fun _ => rfl) al0 ?_
  refine w_ls [(0, aR 0 0), (1, aI (nI 0)), (2, aI (nI 1))] (lq_c rfl (lq_c rfl (lq_c rfl lq_n))) ?_
  exact L4_0 _ _ _ _ h
set_option maxRecDepth 20000 in
set_option maxHeartbeats 4000000 in
/-- BallotBus.checkTicks -/
theorem sn_157 (a1 : Int32) (a2 : Int32) {Y : Sm} (v : (Unit ⊕ Nat)) (Z : Sm) (h : fn_157 a1 a2 Y = some (v, Z)) : Mt 6 1 157 [aR 0 0, aI a1, aI a2] Y (Pz (fun _ => none) v Z) (Ez v Z) := by
  refine Mt_of [(0, aR 0 0), (1, aI a1), (2, aI a2)] ?_
  generalize ho : (v, Z) = o at h
  have hv9 : v = o.1 := congrArg Prod.fst ho
  have hZ9 : Z = o.2 := congrArg Prod.snd ho
  clear ho
  subst hv9 hZ9
  unfold fn_157 at h
  refine w_sg k157 2 (pc' := 2) (ls' := [(0, aR 0 0), (1, aI a1), (2, aI a2)]) (st' := [aI (nI 1), aI a1]) (cs' := []) (fun _ => rfl) al0 ?_
  refine w_icmp_lt k157 rfl (fun c => ?_) (fun c => ?_)
  · replace h := if_t c h
    obtain rfl := Option.some.inj h
    exact w_throw k157 rfl rfl Ez_r
  · replace h := if_f c h
    refine w_sg k157 2 (pc' := 7) (ls' := [(0, aR 0 0), (1, aI a1), (2, aI a2)]) (st' := [aI a2, aI a1]) (cs' := []) (fun _ => rfl) al0 ?_
    refine w_icmp_le k157 rfl (fun c => ?_) (fun c => ?_)
    · replace h := if_t c h
      obtain rfl := Option.some.inj h
      exact w_return k157 Pz_l
    · replace h := if_f c h
      obtain rfl := Option.some.inj h
      exact w_throw k157 rfl rfl Ez_r
set_option maxRecDepth 20000 in
set_option maxHeartbeats 4000000 in
/-- BallotBus$Rows.copy -/
theorem sn_44_22_22 (i0 : Nat) (i1 : Nat) {Y : Sm} (v : Unit) (Z : Sm) (h : fn_44_22_22 i0 i1 Y = some (v, Z)) : Mt 4 0 44 [aR 22 i0, aR 22 i1] Y (Rt none Z) nX := by
  refine Mt_of [(0, aR 22 i0), (1, aR 22 i1)] ?_
  generalize ho : (v, Z) = o at h
  have hv9 : v = o.1 := congrArg Prod.fst ho
  have hZ9 : Z = o.2 := congrArg Prod.snd ho
  clear ho
  subst hv9 hZ9
  unfold fn_44_22_22 at h
  refine w_sw k44 10 (Z := (sC Y 22 i0 0 22 i1 0 5)) (pc' := 14) (ls' := [(0, aR 22 i0), (1, aR 22 i1)]) (st' := []) (cs' := [¬ (nI 0) < 0, ¬ (nI 0) < 0, ¬ (nI 5) < 0, 0 + 5 ≤ 5, 0 + 5 ≤ 5, allw 22 i1]) (fun _ => rfl) rfl (al2 (by decide) (al2 (by decide) (al2 (by decide) (al2 (by decide) (al2 (by decide) (al1 rfl)))))) ?_
  replace h := wr_some h
  generalize (sC Y 22 i0 0 22 i1 0 5) = Y1 at h ⊢
  obtain rfl := Option.some.inj h
  exact w_return k44 ⟨rfl, rfl⟩
set_option maxRecDepth 20000 in
set_option maxHeartbeats 4000000 in
/-- BallotBus$Rows.copy -/
theorem sn_44_23_23 (i0 : Nat) (i1 : Nat) {Y : Sm} (v : Unit) (Z : Sm) (h : fn_44_23_23 i0 i1 Y = some (v, Z)) : Mt 4 0 44 [aR 23 i0, aR 23 i1] Y (Rt none Z) nX := by
  refine Mt_of [(0, aR 23 i0), (1, aR 23 i1)] ?_
  generalize ho : (v, Z) = o at h
  have hv9 : v = o.1 := congrArg Prod.fst ho
  have hZ9 : Z = o.2 := congrArg Prod.snd ho
  clear ho
  subst hv9 hZ9
  unfold fn_44_23_23 at h
  refine w_sw k44 10 (Z := (sC Y 23 i0 0 23 i1 0 5)) (pc' := 14) (ls' := [(0, aR 23 i0), (1, aR 23 i1)]) (st' := []) (cs' := [¬ (nI 0) < 0, ¬ (nI 0) < 0, ¬ (nI 5) < 0, 0 + 5 ≤ 5, 0 + 5 ≤ 5, allw 23 i1]) (fun _ => rfl) rfl (al2 (by decide) (al2 (by decide) (al2 (by decide) (al2 (by decide) (al2 (by decide) (al1 rfl)))))) ?_
  replace h := wr_some h
  generalize (sC Y 23 i0 0 23 i1 0 5) = Y1 at h ⊢
  obtain rfl := Option.some.inj h
  exact w_return k44 ⟨rfl, rfl⟩
set_option maxRecDepth 20000 in
set_option maxHeartbeats 4000000 in
/-- BallotBus$Rows.copy -/
theorem sn_44_24_24 (i0 : Nat) (i1 : Nat) {Y : Sm} (v : Unit) (Z : Sm) (h : fn_44_24_24 i0 i1 Y = some (v, Z)) : Mt 4 0 44 [aR 24 i0, aR 24 i1] Y (Rt none Z) nX := by
  refine Mt_of [(0, aR 24 i0), (1, aR 24 i1)] ?_
  generalize ho : (v, Z) = o at h
  have hv9 : v = o.1 := congrArg Prod.fst ho
  have hZ9 : Z = o.2 := congrArg Prod.snd ho
  clear ho
  subst hv9 hZ9
  unfold fn_44_24_24 at h
  refine w_sw k44 10 (Z := (sC Y 24 i0 0 24 i1 0 5)) (pc' := 14) (ls' := [(0, aR 24 i0), (1, aR 24 i1)]) (st' := []) (cs' := [¬ (nI 0) < 0, ¬ (nI 0) < 0, ¬ (nI 5) < 0, 0 + 5 ≤ 5, 0 + 5 ≤ 5, allw 24 i1]) (fun _ => rfl) rfl (al2 (by decide) (al2 (by decide) (al2 (by decide) (al2 (by decide) (al2 (by decide) (al1 rfl)))))) ?_
  replace h := wr_some h
  generalize (sC Y 24 i0 0 24 i1 0 5) = Y1 at h ⊢
  obtain rfl := Option.some.inj h
  exact w_return k44 ⟨rfl, rfl⟩
set_option maxRecDepth 20000 in
set_option maxHeartbeats 4000000 in
/-- BallotBus$Rows.copy -/
theorem sn_44_27_27 (i0 : Nat) (i1 : Nat) {Y : Sm} (v : Unit) (Z : Sm) (h : fn_44_27_27 i0 i1 Y = some (v, Z)) : Mt 4 0 44 [aR 27 i0, aR 27 i1] Y (Rt none Z) nX := by
  refine Mt_of [(0, aR 27 i0), (1, aR 27 i1)] ?_
  generalize ho : (v, Z) = o at h
  have hv9 : v = o.1 := congrArg Prod.fst ho
  have hZ9 : Z = o.2 := congrArg Prod.snd ho
  clear ho
  subst hv9 hZ9
  unfold fn_44_27_27 at h
  refine w_sw k44 10 (Z := (sC Y 27 i0 0 27 i1 0 5)) (pc' := 14) (ls' := [(0, aR 27 i0), (1, aR 27 i1)]) (st' := []) (cs' := [¬ (nI 0) < 0, ¬ (nI 0) < 0, ¬ (nI 5) < 0, 0 + 5 ≤ 5, 0 + 5 ≤ 5, allw 27 i1]) (fun _ => rfl) rfl (al2 (by decide) (al2 (by decide) (al2 (by decide) (al2 (by decide) (al2 (by decide) (al1 rfl)))))) ?_
  replace h := wr_some h
  generalize (sC Y 27 i0 0 27 i1 0 5) = Y1 at h ⊢
  obtain rfl := Option.some.inj h
  exact w_return k44 ⟨rfl, rfl⟩
set_option maxRecDepth 20000 in
set_option maxHeartbeats 4000000 in
/-- BallotBus$Accounts.copyFrom -/
theorem sn_2 (i0 : Nat) (i1 : Nat) {Y : Sm} (v : Unit) (Z : Sm) (h : fn_2 i0 i1 Y = some (v, Z)) : Mt 4 0 2 [aR 28 i0, aR 28 i1] Y (Rt none Z) nX := by
  refine Mt_of [(0, aR 28 i0), (1, aR 28 i1)] ?_
  generalize ho : (v, Z) = o at h
  have hv9 : v = o.1 := congrArg Prod.fst ho
  have hZ9 : Z = o.2 := congrArg Prod.snd ho
  clear ho
  subst hv9 hZ9
  unfold fn_2 at h
  refine w_sw k2 8 (Z := (sC Y 29 i1 0 29 i0 0 8)) (pc' := 15) (ls' := [(0, aR 28 i0), (1, aR 28 i1)]) (st' := []) (cs' := [¬ (nI 0) < 0, ¬ (nI 0) < 0, ¬ (nI 8) < 0, 0 + 8 ≤ 8, 0 + 8 ≤ 8, allw 29 i0]) (fun _ => rfl) rfl (al2 (by decide) (al2 (by decide) (al2 (by decide) (al2 (by decide) (al2 (by decide) (al1 rfl)))))) ?_
  replace h := wr_some h
  generalize (sC Y 29 i1 0 29 i0 0 8) = Y1 at h ⊢
  refine w_sw k2 8 (Z := (sC Y1 30 i1 0 30 i0 0 8)) (pc' := 30) (ls' := [(0, aR 28 i0), (1, aR 28 i1)]) (st' := []) (cs' := [¬ (nI 0) < 0, ¬ (nI 0) < 0, ¬ (nI 8) < 0, 0 + 8 ≤ 8, 0 + 8 ≤ 8, allw 30 i0]) (fun _ => rfl) rfl (al2 (by decide) (al2 (by decide) (al2 (by decide) (al2 (by decide) (al2 (by decide) (al1 rfl)))))) ?_
  replace h := wr_some h
  generalize (sC Y1 30 i1 0 30 i0 0 8) = Y2 at h ⊢
  refine w_sw k2 8 (Z := (sC Y2 31 i1 0 31 i0 0 8)) (pc' := 45) (ls' := [(0, aR 28 i0), (1, aR 28 i1)]) (st' := []) (cs' := [¬ (nI 0) < 0, ¬ (nI 0) < 0, ¬ (nI 8) < 0, 0 + 8 ≤ 8, 0 + 8 ≤ 8, allw 31 i0]) (fun _ => rfl) rfl (al2 (by decide) (al2 (by decide) (al2 (by decide) (al2 (by decide) (al2 (by decide) (al1 rfl)))))) ?_
  replace h := wr_some h
  generalize (sC Y2 31 i1 0 31 i0 0 8) = Y3 at h ⊢
  refine w_sw k2 8 (Z := (sC Y3 32 i1 0 32 i0 0 8)) (pc' := 60) (ls' := [(0, aR 28 i0), (1, aR 28 i1)]) (st' := []) (cs' := [¬ (nI 0) < 0, ¬ (nI 0) < 0, ¬ (nI 8) < 0, 0 + 8 ≤ 8, 0 + 8 ≤ 8, allw 32 i0]) (fun _ => rfl) rfl (al2 (by decide) (al2 (by decide) (al2 (by decide) (al2 (by decide) (al2 (by decide) (al1 rfl)))))) ?_
  replace h := wr_some h
  generalize (sC Y3 32 i1 0 32 i0 0 8) = Y4 at h ⊢
  refine w_sw k2 8 (Z := (sC Y4 33 i1 0 33 i0 0 8)) (pc' := 75) (ls' := [(0, aR 28 i0), (1, aR 28 i1)]) (st' := []) (cs' := [¬ (nI 0) < 0, ¬ (nI 0) < 0, ¬ (nI 8) < 0, 0 + 8 ≤ 8, 0 + 8 ≤ 8, allw 33 i0]) (fun _ => rfl) rfl (al2 (by decide) (al2 (by decide) (al2 (by decide) (al2 (by decide) (al2 (by decide) (al1 rfl)))))) ?_
  replace h := wr_some h
  generalize (sC Y4 33 i1 0 33 i0 0 8) = Y5 at h ⊢
  refine w_sw k2 8 (Z := (sC Y5 34 i1 0 34 i0 0 8)) (pc' := 90) (ls' := [(0, aR 28 i0), (1, aR 28 i1)]) (st' := []) (cs' := [¬ (nI 0) < 0, ¬ (nI 0) < 0, ¬ (nI 8) < 0, 0 + 8 ≤ 8, 0 + 8 ≤ 8, allw 34 i0]) (fun _ => rfl) rfl (al2 (by decide) (al2 (by decide) (al2 (by decide) (al2 (by decide) (al2 (by decide) (al1 rfl)))))) ?_
  replace h := wr_some h
  generalize (sC Y5 34 i1 0 34 i0 0 8) = Y6 at h ⊢
  obtain rfl := Option.some.inj h
  exact w_return k2 ⟨rfl, rfl⟩
set_option maxRecDepth 20000 in
set_option maxHeartbeats 4000000 in
/-- BallotBus$AnswerLog.copyFrom -/
theorem sn_10 (i0 : Nat) (i1 : Nat) {Y : Sm} (v : Unit) (Z : Sm) (h : fn_10 i0 i1 Y = some (v, Z)) : Mt 4 0 10 [aR 35 i0, aR 35 i1] Y (Rt none Z) nX := by
  refine Mt_of [(0, aR 35 i0), (1, aR 35 i1)] ?_
  generalize ho : (v, Z) = o at h
  have hv9 : v = o.1 := congrArg Prod.fst ho
  have hZ9 : Z = o.2 := congrArg Prod.snd ho
  clear ho
  subst hv9 hZ9
  unfold fn_10 at h
  refine w_sw k10 4 (Z := (sI Y 35 i0 1 (gI Y.1 35 i1 1))) (pc' := 8) (ls' := [(0, aR 35 i0), (1, aR 35 i1)]) (st' := []) (cs' := [allw 35 i0]) (fun _ => rfl) rfl (al1 rfl) ?_
  replace h := wr_some h
  generalize (sI Y 35 i0 1 (gI Y.1 35 i1 1)) = Y1 at h ⊢
  refine w_sw k10 4 (Z := (sI Y1 35 i0 2 (gI Y1.1 35 i1 2))) (pc' := 16) (ls' := [(0, aR 35 i0), (1, aR 35 i1)]) (st' := []) (cs' := [allw 35 i0]) (fun _ => rfl) rfl (al1 rfl) ?_
  replace h := wr_some h
  generalize (sI Y1 35 i0 2 (gI Y1.1 35 i1 2)) = Y2 at h ⊢
  refine w_sw k10 10 (Z := (sC Y2 36 i1 0 36 i0 0 360)) (pc' := 34) (ls' := [(0, aR 35 i0), (1, aR 35 i1)]) (st' := []) (cs' := [¬ (nI 0) < 0, ¬ (nI 0) < 0, ¬ (nI 360) < 0, 0 + 360 ≤ 360, 0 + 360 ≤ 360, allw 36 i0]) (fun _ => rfl) rfl (al2 (by decide) (al2 (by decide) (al2 (by decide) (al2 (by decide) (al2 (by decide) (al1 rfl)))))) ?_
  replace h := wr_some h
  generalize (sC Y2 36 i1 0 36 i0 0 360) = Y3 at h ⊢
  obtain rfl := Option.some.inj h
  exact w_return k10 ⟨rfl, rfl⟩
set_option maxRecDepth 20000 in
set_option maxHeartbeats 4000000 in
/-- BallotBus$State.copyFrom -/
theorem sn_72 (i0 : Nat) (i1 : Nat) {Y : Sm} (v : Unit) (Z : Sm) (h : fn_72 i0 i1 Y = some (v, Z)) : Mt 5 0 72 [aR 21 i0, aR 21 i1] Y (Rt none Z) nX := by
  refine Mt_of [(0, aR 21 i0), (1, aR 21 i1)] ?_
  generalize ho : (v, Z) = o at h
  have hv9 : v = o.1 := congrArg Prod.fst ho
  have hZ9 : Z = o.2 := congrArg Prod.snd ho
  clear ho
  subst hv9 hZ9
  unfold fn_72 at h
  have L121_0 : ∀ (l0 : Nat) (l1 : Nat) (n : Nat) (l2 : Int32) (Y : Sm) (e21 : (Sm) ⊕ (Unit × Sm)), lp (fun s => fn_72_L121 l0 l1 s.1 s.2) n (l2, Y) = some e21 → (∀ s9 : (Sm), e21 = .inl s9 → Wm 5 0 72 0 148 [(0, aR 21 l0), (1, aR 21 l1)] [] s9 (Rt none o.2) nX) → (∀ r, e21 = .inr r → r = o) → Wm 5 0 72 0 121 [(0, aR 21 l0), (1, aR 21 l1), (2, aI l2)] [] Y (Rt none o.2) nX := by
    intro l0 l1 n
    induction n with
    | zero => intro l2 Y e21 h; cases h
    | succ n ih20 =>
      intro l2 Y e21 h kE22 kR23
      obtain ⟨q18, h, hn19⟩ := lp_succ h
      replace h : fn_72_L121 l0 l1 l2 Y = some q18 := h
      unfold fn_72_L121 at h
      refine w_sg k72 2 (pc' := 124) (ls' := [(0, aR 21 l0), (1, aR 21 l1), (2, aI l2)]) (st' := [aI (nI 8), aI l2]) (cs' := []) (fun _ => rfl) al0 ?_
      refine w_icmp_ge k72 rfl (fun c => ?_) (fun c => ?_)
      · replace h := if_t c h
        refine w_ls [(0, aR 21 l0), (1, aR 21 l1)] (lq_c rfl (lq_c rfl lq_n)) ?_
        obtain rfl := Option.some.inj h
        obtain rfl := lpn_r hn19
        exact kE22 _ rfl
      · replace h := if_f c h
        obtain ⟨hc24, h⟩ := ck_some h
        refine w_sg k72 8 (pc' := 139) (ls' := [(0, aR 21 l0), (1, aR 21 l1), (2, aI l2)]) (st' := [aR 27 (8 * l0 + ix l2), aR 27 (8 * l1 + ix l2)]) (cs' := [vp_in l2 8, vp_in l2 8]) (fun _ => rfl) (al2 (vin hc24) (al1 (vin hc24))) ?_
        obtain ⟨_, Y25, hv26, h⟩ := bd_some h
        refine w_cS0 k72 (sn_44_27_27 _ _ _ _ hv26) rfl (st := []) rfl ?_ (fun _ _ q => q.elim)
        refine w_sg k72 2 (pc' := 121) (ls' := [(0, aR 21 l0), (1, aR 21 l1), (2, aI (l2 + (nI 1)))]) (st' := []) (cs' := []) (fun _ => rfl) al0 ?_
        refine w_ls [(0, aR 21 l0), (1, aR 21 l1), (2, aI (l2 + (nI 1)))] (lq_c rfl (lq_c rfl (lq_c rfl lq_n))) ?_
        obtain rfl := Option.some.inj h
        exact ih20 _ _ _ (lpn_l hn19) kE22 kR23
  have J148_0 : ∀ (l0 : Nat) (l1 : Nat) (Y : Sm), fn_72_J148 l0 l1 Y = some o → Wm 5 0 72 0 148 [(0, aR 21 l0), (1, aR 21 l1)] [] Y (Rt none o.2) nX := by
    intro l0 l1 Y h
    unfold fn_72_J148 at h
    refine w_sg k72 4 (pc' := 156) (ls' := [(0, aR 21 l0), (1, aR 21 l1)]) (st' := [aR 28 l1, aR 28 l0]) (cs' := []) (fun _ => rfl) al0 ?_
    obtain ⟨_, Y27, hv28, h⟩ := bd_some h
    refine w_cV0 k72 (sn_2 _ _ _ _ hv28) rfl (st := []) rfl ?_ (fun _ _ q => q.elim)
    refine w_sg k72 4 (pc' := 167) (ls' := [(0, aR 21 l0), (1, aR 21 l1)]) (st' := [aR 12 (l1 + 3), aR 12 (l0 + 3)]) (cs' := []) (fun _ => rfl) al0 ?_
    obtain ⟨_, Y29, hv30, h⟩ := bd_some h
    refine w_cV0 k72 (sn_35 _ _ _ _ hv30) rfl (st := []) rfl ?_ (fun _ _ q => q.elim)
    refine w_sg k72 4 (pc' := 178) (ls' := [(0, aR 21 l0), (1, aR 21 l1)]) (st' := [aR 35 l1, aR 35 l0]) (cs' := []) (fun _ => rfl) al0 ?_
    obtain ⟨_, Y31, hv32, h⟩ := bd_some h
    refine w_cV0 k72 (sn_10 _ _ _ _ hv32) rfl (st := []) rfl ?_ (fun _ _ q => q.elim)
    obtain rfl := Option.some.inj h
    exact w_return k72 ⟨rfl, rfl⟩
  refine w_sg k72 3 (pc' := 5) (ls' := [(0, aR 21 i0), (1, aR 21 i1)]) (st' := [aR 5 (Y.2 (i1 + 3)), aR 21 i0]) (cs' := []) (fun _ => rfl) al0 ?_
  refine w_pg3 k72 rfl ?_
  replace h := wr_some h
  generalize (sG Y (i0 + 3) (Y.2 (i1 + 3))) = Y1 at h ⊢
  refine w_sw k72 4 (Z := (sI Y1 21 i0 1 (gI Y1.1 21 i1 1))) (pc' := 16) (ls' := [(0, aR 21 i0), (1, aR 21 i1)]) (st' := []) (cs' := [allw 21 i0]) (fun _ => rfl) rfl (al1 rfl) ?_
  replace h := wr_some h
  generalize (sI Y1 21 i0 1 (gI Y1.1 21 i1 1)) = Y2 at h ⊢
  refine w_sw k72 4 (Z := (sI Y2 21 i0 2 (gI Y2.1 21 i1 2))) (pc' := 24) (ls' := [(0, aR 21 i0), (1, aR 21 i1)]) (st' := []) (cs' := [allw 21 i0]) (fun _ => rfl) rfl (al1 rfl) ?_
  replace h := wr_some h
  generalize (sI Y2 21 i0 2 (gI Y2.1 21 i1 2)) = Y3 at h ⊢
  refine w_sw k72 4 (Z := (sI Y3 21 i0 3 (gI Y3.1 21 i1 3))) (pc' := 32) (ls' := [(0, aR 21 i0), (1, aR 21 i1)]) (st' := []) (cs' := [allw 21 i0]) (fun _ => rfl) rfl (al1 rfl) ?_
  replace h := wr_some h
  generalize (sI Y3 21 i0 3 (gI Y3.1 21 i1 3)) = Y4 at h ⊢
  obtain ⟨hc5, h⟩ := ck_some h
  refine w_sw k72 4 (Z := (sI Y4 21 i0 4 (gI Y4.1 21 i1 4))) (pc' := 40) (ls' := [(0, aR 21 i0), (1, aR 21 i1)]) (st' := []) (cs' := [allw 21 i0, (gI Y4.1 21 i1 4) = 0 ∨ (gI Y4.1 21 i1 4) = 1]) (fun _ => rfl) rfl (al2 rfl (al1 (bz_or hc5))) ?_
  replace h := wr_some h
  generalize (sI Y4 21 i0 4 (gI Y4.1 21 i1 4)) = Y6 at h ⊢
  refine w_sw k72 4 (Z := (sI Y6 21 i0 5 (gI Y6.1 21 i1 5))) (pc' := 48) (ls' := [(0, aR 21 i0), (1, aR 21 i1)]) (st' := []) (cs' := [allw 21 i0]) (fun _ => rfl) rfl (al1 rfl) ?_
  replace h := wr_some h
  generalize (sI Y6 21 i0 5 (gI Y6.1 21 i1 5)) = Y7 at h ⊢
  refine w_sw k72 4 (Z := (sI Y7 21 i0 6 (gI Y7.1 21 i1 6))) (pc' := 56) (ls' := [(0, aR 21 i0), (1, aR 21 i1)]) (st' := []) (cs' := [allw 21 i0]) (fun _ => rfl) rfl (al1 rfl) ?_
  replace h := wr_some h
  generalize (sI Y7 21 i0 6 (gI Y7.1 21 i1 6)) = Y8 at h ⊢
  refine w_sw k72 4 (Z := (sI Y8 21 i0 7 (gI Y8.1 21 i1 7))) (pc' := 64) (ls' := [(0, aR 21 i0), (1, aR 21 i1)]) (st' := []) (cs' := [allw 21 i0]) (fun _ => rfl) rfl (al1 rfl) ?_
  replace h := wr_some h
  generalize (sI Y8 21 i0 7 (gI Y8.1 21 i1 7)) = Y9 at h ⊢
  refine w_sw k72 4 (Z := (sI Y9 21 i0 8 (gI Y9.1 21 i1 8))) (pc' := 72) (ls' := [(0, aR 21 i0), (1, aR 21 i1)]) (st' := []) (cs' := [allw 21 i0]) (fun _ => rfl) rfl (al1 rfl) ?_
  replace h := wr_some h
  generalize (sI Y9 21 i0 8 (gI Y9.1 21 i1 8)) = Y10 at h ⊢
  refine w_sg k72 4 (pc' := 80) (ls' := [(0, aR 21 i0), (1, aR 21 i1)]) (st' := [aR 22 i0, aR 22 i1]) (cs' := []) (fun _ => rfl) al0 ?_
  obtain ⟨_, Y11, hv12, h⟩ := bd_some h
  refine w_cS0 k72 (sn_44_22_22 _ _ _ _ hv12) rfl (st := []) rfl ?_ (fun _ _ q => q.elim)
  refine w_sg k72 4 (pc' := 91) (ls' := [(0, aR 21 i0), (1, aR 21 i1)]) (st' := [aR 23 i0, aR 23 i1]) (cs' := []) (fun _ => rfl) al0 ?_
  obtain ⟨_, Y13, hv14, h⟩ := bd_some h
  refine w_cS0 k72 (sn_44_23_23 _ _ _ _ hv14) rfl (st := []) rfl ?_ (fun _ _ q => q.elim)
  refine w_sg k72 4 (pc' := 102) (ls' := [(0, aR 21 i0), (1, aR 21 i1)]) (st' := [aR 24 i0, aR 24 i1]) (cs' := []) (fun _ => rfl) al0 ?_
  obtain ⟨_, Y15, hv16, h⟩ := bd_some h
  refine w_cS0 k72 (sn_44_24_24 _ _ _ _ hv16) rfl (st := []) rfl ?_ (fun _ _ q => q.elim)
  refine w_sw k72 8 (Z := (sD2 Y15 25 i1 0 25 i0 0 5)) (pc' := 119) (ls' := [(0, aR 21 i0), (1, aR 21 i1)]) (st' := []) (cs' := [¬ (nI 0) < 0, ¬ (nI 0) < 0, ¬ (nI 5) < 0, 0 + 5 ≤ 5, 0 + 5 ≤ 5, allw 25 i0]) (fun _ => rfl) rfl (al2 (by decide) (al2 (by decide) (al2 (by decide) (al2 (by decide) (al2 (by decide) (al1 rfl)))))) ?_
  replace h := wr_some h
  generalize (sD2 Y15 25 i1 0 25 i0 0 5) = Y17 at h ⊢
  refine w_sg k72 2 (pc' := 121) (ls' := [(0, aR 21 i0), (1, aR 21 i1), (2, aI (nI 0))]) (st' := []) (cs' := []) (fun _ => rfl) al0 ?_
  obtain ⟨e35, hl33, hx34⟩ := exd_some h
  refine w_ls [(0, aR 21 i0), (1, aR 21 i1), (2, aI (nI 0))] (lq_c rfl (lq_c rfl (lq_c rfl lq_n))) ?_
  refine L121_0 _ _ _ _ _ e35 hl33 (fun s9 hs9 => ?_) (fun r9 hr9 => ?_)
  · subst hs9
    replace h : fn_72_J148 i0 i1 s9 = some o := hx34
    refine w_ls [(0, aR 21 i0), (1, aR 21 i1)] (lq_c rfl (lq_c rfl lq_n)) ?_
    exact J148_0 _ _ _ h
  · subst hr9
    exact hx34
set_option maxRecDepth 20000 in
set_option maxHeartbeats 4000000 in
/-- BallotBus$History.push -/
theorem sn_14 (i1 : Nat) {Y : Sm} (v : Unit) (Z : Sm) (h : fn_14 i1 Y = some (v, Z)) : Mt 6 0 14 [aR 37 0, aR 21 i1] Y (Rt none Z) nX := by
  refine Mt_of [(0, aR 37 0), (1, aR 21 i1)] ?_
  generalize ho : (v, Z) = o at h
  have hv9 : v = o.1 := congrArg Prod.fst ho
  have hZ9 : Z = o.2 := congrArg Prod.snd ho
  clear ho
  subst hv9 hZ9
  unfold fn_14 at h
  have J22_0 : ∀ (l1 : Nat) (t0 : Int32) (Y : Sm), fn_14_J22 l1 t0 Y = some o → Wm 6 0 14 0 22 [(0, aR 37 0), (1, aR 21 l1)] [aI t0, aR 37 0] Y (Rt none o.2) nX := by
    intro l1 t0 Y h
    unfold fn_14_J22 at h
    refine w_sw k14 1 (Z := (sI Y 37 0 1 t0)) (pc' := 25) (ls' := [(0, aR 37 0), (1, aR 21 l1)]) (st' := []) (cs' := [allw 37 0]) (fun _ => rfl) rfl (al1 rfl) ?_
    replace h := wr_some h
    generalize (sI Y 37 0 1 t0) = Y1 at h ⊢
    obtain ⟨hc2, h⟩ := ck_some h
    refine w_sg k14 6 (pc' := 35) (ls' := [(0, aR 37 0), (1, aR 21 l1)]) (st' := [aR 21 l1, aR 21 ((ix (gI Y1.1 37 0 1)) + 3)]) (cs' := [vp_in (gI Y1.1 37 0 1) 8]) (fun _ => rfl) (al1 (vin hc2)) ?_
    obtain ⟨_, Y3, hv4, h⟩ := bd_some h
    refine w_cV0 k14 (sn_72 _ _ _ _ hv4) rfl (st := []) rfl ?_ (fun _ _ q => q.elim)
    refine w_sw k14 8 (Z := (sI Y3 37 0 2 (if (nI 8) < ((gI Y3.1 37 0 2) + (nI 1)) then (nI 8) else ((gI Y3.1 37 0 2) + (nI 1))))) (pc' := 53) (ls' := [(0, aR 37 0), (1, aR 21 l1)]) (st' := []) (cs' := [allw 37 0]) (fun _ => rfl) rfl (al1 rfl) ?_
    replace h := wr_some h
    generalize (sI Y3 37 0 2 (if (nI 8) < ((gI Y3.1 37 0 2) + (nI 1)) then (nI 8) else ((gI Y3.1 37 0 2) + (nI 1)))) = Y5 at h ⊢
    obtain rfl := Option.some.inj h
    exact w_return k14 ⟨rfl, rfl⟩
  refine w_sg k14 6 (pc' := 9) (ls' := [(0, aR 37 0), (1, aR 21 i1)]) (st' := [aI (nI 8), aI ((gI Y.1 37 0 1) + (nI 1)), aR 37 0]) (cs' := []) (fun _ => rfl) al0 ?_
  refine w_icmp_ge k14 rfl (fun c => ?_) (fun c => ?_)
  · replace h := if_t c h
    refine w_sg k14 1 (pc' := 22) (ls' := [(0, aR 37 0), (1, aR 21 i1)]) (st' := [aI (nI 0), aR 37 0]) (cs' := []) (fun _ => rfl) al0 ?_
    refine w_ls [(0, aR 37 0), (1, aR 21 i1)] (lq_c rfl (lq_c rfl lq_n)) ?_
    exact J22_0 _ _ _ h
  · replace h := if_f c h
    refine w_sg k14 5 (pc' := 22) (ls' := [(0, aR 37 0), (1, aR 21 i1)]) (st' := [aI ((gI Y.1 37 0 1) + (nI 1)), aR 37 0]) (cs' := []) (fun _ => rfl) al0 ?_
    refine w_ls [(0, aR 37 0), (1, aR 21 i1)] (lq_c rfl (lq_c rfl lq_n)) ?_
    exact J22_0 _ _ _ h
set_option maxRecDepth 20000 in
set_option maxHeartbeats 4000000 in
/-- BallotBus$State.isMultipleOf -/
theorem sn_87 (i0 : Nat) (a1 : Int32) {Y : Sm} (v : Int32) (Z : Sm) (h : fn_87 i0 a1 Y = some (v, Z)) : Mt 4 0 87 [aR 21 i0, aI a1] Y (Rt (some (aI v)) Z) nX := by
  refine Mt_of [(0, aR 21 i0), (1, aI a1)] ?_
  generalize ho : (v, Z) = o at h
  have hv9 : v = o.1 := congrArg Prod.fst ho
  have hZ9 : Z = o.2 := congrArg Prod.snd ho
  clear ho
  subst hv9 hZ9
  unfold fn_87 at h
  refine w_sg k87 1 (pc' := 1) (ls' := [(0, aR 21 i0), (1, aI a1)]) (st' := [aI a1]) (cs' := []) (fun _ => rfl) al0 ?_
  refine w_if_le k87 rfl (fun c => ?_) (fun c => ?_)
  · replace h := if_t c h
    refine w_sg k87 1 (pc' := 18) (ls' := [(0, aR 21 i0), (1, aI a1)]) (st' := [aI (nI 0)]) (cs' := []) (fun _ => rfl) al0 ?_
    obtain rfl := Option.some.inj h
    exact w_zreturn k87 (Or.inl rfl) ⟨rfl, rfl⟩
  · replace h := if_f c h
    obtain ⟨hc1, h⟩ := ck_some h
    refine w_sg k87 4 (pc' := 10) (ls' := [(0, aR 21 i0), (1, aI a1)]) (st' := [aI ((gI Y.1 21 i0 1) - (gI Y.1 21 i0 1) / a1 * a1)]) (cs' := [¬ a1 = 0]) (fun _ => rfl) (al1 (nz_of hc1)) ?_
    refine w_if_ne k87 rfl (fun c => ?_) (fun c => ?_)
    · replace h := if_f c h
      refine w_sg k87 1 (pc' := 18) (ls' := [(0, aR 21 i0), (1, aI a1)]) (st' := [aI (nI 0)]) (cs' := []) (fun _ => rfl) al0 ?_
      obtain rfl := Option.some.inj h
      exact w_zreturn k87 (Or.inl rfl) ⟨rfl, rfl⟩
    · replace h := if_t c h
      refine w_sg k87 2 (pc' := 18) (ls' := [(0, aR 21 i0), (1, aI a1)]) (st' := [aI (nI 1)]) (cs' := []) (fun _ => rfl) al0 ?_
      obtain rfl := Option.some.inj h
      exact w_zreturn k87 (Or.inr rfl) ⟨rfl, rfl⟩
set_option maxRecDepth 20000 in
set_option maxHeartbeats 4000000 in
/-- BallotBus$Accounts.book -/
theorem sn_7 (i0 : Nat) (a1 : Int32) (a2 : Int32) {Y : Sm} (v : Int32) (Z : Sm) (h : fn_7 i0 a1 a2 Y = some (v, Z)) : Mt 4 0 7 [aR 28 i0, aI a1, aI a2] Y (Rt (some (aI v)) Z) nX := by
  refine Mt_of [(0, aR 28 i0), (1, aI a1), (2, aI a2)] ?_
  generalize ho : (v, Z) = o at h
  have hv9 : v = o.1 := congrArg Prod.fst ho
  have hZ9 : Z = o.2 := congrArg Prod.snd ho
  clear ho
  subst hv9 hZ9
  unfold fn_7 at h
  obtain ⟨hc1, h⟩ := ck_some h
  refine w_sw k7 15 (Z := (sI Y 30 i0 (ix a1) ((gI Y.1 30 i0 (ix a1)) - (if (gI Y.1 30 i0 (ix a1)) < a2 then (gI Y.1 30 i0 (ix a1)) else a2)))) (pc' := 21) (ls' := [(0, aR 28 i0), (1, aI a1), (2, aI a2), (3, aI (if (gI Y.1 30 i0 (ix a1)) < a2 then (gI Y.1 30 i0 (ix a1)) else a2))]) (st' := []) (cs' := [vp_in a1 8, vp_in a1 8, vp_in a1 8, allw 30 i0]) (fun _ => rfl) rfl (al2 (vin hc1) (al2 (vin hc1) (al2 (vin hc1) (al1 rfl)))) ?_
  replace h := wr_some h
  generalize (sI Y 30 i0 (ix a1) ((gI Y.1 30 i0 (ix a1)) - (if (gI Y.1 30 i0 (ix a1)) < a2 then (gI Y.1 30 i0 (ix a1)) else a2))) = Y2 at h ⊢
  refine w_sw k7 14 (Z := (sI Y2 29 i0 (ix a1) (if (((gI Y2.1 29 i0 (ix a1)) + a2) - (if (gI Y.1 30 i0 (ix a1)) < a2 then (gI Y.1 30 i0 (ix a1)) else a2)) < (nI 999) then (((gI Y2.1 29 i0 (ix a1)) + a2) - (if (gI Y.1 30 i0 (ix a1)) < a2 then (gI Y.1 30 i0 (ix a1)) else a2)) else (nI 999)))) (pc' := 43) (ls' := [(0, aR 28 i0), (1, aI a1), (2, aI a2), (3, aI (if (gI Y.1 30 i0 (ix a1)) < a2 then (gI Y.1 30 i0 (ix a1)) else a2))]) (st' := []) (cs' := [vp_in a1 8, vp_in a1 8, allw 29 i0]) (fun _ => rfl) rfl (al2 (vin hc1) (al2 (vin hc1) (al1 rfl))) ?_
  replace h := wr_some h
  generalize (sI Y2 29 i0 (ix a1) (if (((gI Y2.1 29 i0 (ix a1)) + a2) - (if (gI Y.1 30 i0 (ix a1)) < a2 then (gI Y.1 30 i0 (ix a1)) else a2)) < (nI 999) then (((gI Y2.1 29 i0 (ix a1)) + a2) - (if (gI Y.1 30 i0 (ix a1)) < a2 then (gI Y.1 30 i0 (ix a1)) else a2)) else (nI 999))) = Y3 at h ⊢
  refine w_sw k7 8 (Z := (sI Y3 32 i0 (ix a1) ((gI Y3.1 32 i0 (ix a1)) + (nI 1)))) (pc' := 53) (ls' := [(0, aR 28 i0), (1, aI a1), (2, aI a2), (3, aI (if (gI Y.1 30 i0 (ix a1)) < a2 then (gI Y.1 30 i0 (ix a1)) else a2))]) (st' := []) (cs' := [vp_in a1 8, vp_in a1 8, allw 32 i0]) (fun _ => rfl) rfl (al2 (vin hc1) (al2 (vin hc1) (al1 rfl))) ?_
  replace h := wr_some h
  generalize (sI Y3 32 i0 (ix a1) ((gI Y3.1 32 i0 (ix a1)) + (nI 1))) = Y4 at h ⊢
  refine w_sw k7 8 (Z := (sI Y4 33 i0 (ix a1) ((gI Y4.1 33 i0 (ix a1)) + a2))) (pc' := 63) (ls' := [(0, aR 28 i0), (1, aI a1), (2, aI a2), (3, aI (if (gI Y.1 30 i0 (ix a1)) < a2 then (gI Y.1 30 i0 (ix a1)) else a2))]) (st' := []) (cs' := [vp_in a1 8, vp_in a1 8, allw 33 i0]) (fun _ => rfl) rfl (al2 (vin hc1) (al2 (vin hc1) (al1 rfl))) ?_
  replace h := wr_some h
  generalize (sI Y4 33 i0 (ix a1) ((gI Y4.1 33 i0 (ix a1)) + a2)) = Y5 at h ⊢
  refine w_sg k7 1 (pc' := 64) (ls' := [(0, aR 28 i0), (1, aI a1), (2, aI a2), (3, aI (if (gI Y.1 30 i0 (ix a1)) < a2 then (gI Y.1 30 i0 (ix a1)) else a2))]) (st' := [aI (if (gI Y.1 30 i0 (ix a1)) < a2 then (gI Y.1 30 i0 (ix a1)) else a2)]) (cs' := []) (fun _ => rfl) al0 ?_
  obtain rfl := Option.some.inj h
  exact w_ireturn k7 ⟨rfl, rfl⟩
set_option maxRecDepth 20000 in
set_option maxHeartbeats 4000000 in
/-- BallotBus$AnswerLog.add -/
theorem sn_11 (i0 : Nat) (i1 : Nat) (a2 : Int32) (a3 : Int32) (a4 : Int32) {Y : Sm} (v : Unit) (Z : Sm) (h : fn_11 i0 i1 a2 a3 a4 Y = some (v, Z)) : Mt 4 0 11 [aR 35 i0, aR 12 i1, aI a2, aI a3, aI a4] Y (Rt none Z) nX := by
  refine Mt_of [(0, aR 35 i0), (1, aR 12 i1), (2, aI a2), (3, aI a3), (4, aI a4)] ?_
  generalize ho : (v, Z) = o at h
  have hv9 : v = o.1 := congrArg Prod.fst ho
  have hZ9 : Z = o.2 := congrArg Prod.snd ho
  clear ho
  subst hv9 hZ9
  unfold fn_11 at h
  obtain ⟨hc1, h⟩ := ck_some h
  obtain ⟨hc2, h⟩ := ck_some h
  refine w_sw k11 15 (Z := (sI Y 36 i0 (ix ((gI Y.1 35 i0 1) * (nI 6))) (gI Y.1 19 i1 (ix a2)))) (pc' := 24) (ls' := [(0, aR 35 i0), (1, aR 12 i1), (2, aI a2), (3, aI a3), (4, aI a4), (5, aI ((gI Y.1 35 i0 1) * (nI 6)))]) (st' := []) (cs' := [vp_in (nI 5) 6, vp_in a2 40, vp_in ((gI Y.1 35 i0 1) * (nI 6)) 360, allw 36 i0]) (fun _ => rfl) rfl (al2 (vin rfl) (al2 (vin hc1) (al2 (vin hc2) (al1 rfl)))) ?_
  replace h := wr_some h
  generalize (sI Y 36 i0 (ix ((gI Y.1 35 i0 1) * (nI 6))) (gI Y.1 19 i1 (ix a2))) = Y3 at h ⊢
  obtain ⟨hc4, h⟩ := ck_some h
  refine w_sw k11 12 (Z := (sI Y3 36 i0 (ix (((gI Y.1 35 i0 1) * (nI 6)) + (nI 1))) (gI Y3.1 14 i1 (ix a2)))) (pc' := 41) (ls' := [(0, aR 35 i0), (1, aR 12 i1), (2, aI a2), (3, aI a3), (4, aI a4), (5, aI ((gI Y.1 35 i0 1) * (nI 6)))]) (st' := []) (cs' := [vp_in (nI 0) 6, vp_in a2 40, vp_in (((gI Y.1 35 i0 1) * (nI 6)) + (nI 1)) 360, allw 36 i0]) (fun _ => rfl) rfl (al2 (vin rfl) (al2 (vin hc1) (al2 (vin hc4) (al1 rfl)))) ?_
  replace h := wr_some h
  generalize (sI Y3 36 i0 (ix (((gI Y.1 35 i0 1) * (nI 6)) + (nI 1))) (gI Y3.1 14 i1 (ix a2))) = Y5 at h ⊢
  obtain ⟨hc6, h⟩ := ck_some h
  refine w_sw k11 12 (Z := (sI Y5 36 i0 (ix (((gI Y.1 35 i0 1) * (nI 6)) + (nI 2))) (gI Y5.1 15 i1 (ix a2)))) (pc' := 58) (ls' := [(0, aR 35 i0), (1, aR 12 i1), (2, aI a2), (3, aI a3), (4, aI a4), (5, aI ((gI Y.1 35 i0 1) * (nI 6)))]) (st' := []) (cs' := [vp_in (nI 1) 6, vp_in a2 40, vp_in (((gI Y.1 35 i0 1) * (nI 6)) + (nI 2)) 360, allw 36 i0]) (fun _ => rfl) rfl (al2 (vin rfl) (al2 (vin hc1) (al2 (vin hc6) (al1 rfl)))) ?_
  replace h := wr_some h
  generalize (sI Y5 36 i0 (ix (((gI Y.1 35 i0 1) * (nI 6)) + (nI 2))) (gI Y5.1 15 i1 (ix a2))) = Y7 at h ⊢
  obtain ⟨hc8, h⟩ := ck_some h
  refine w_sw k11 12 (Z := (sI Y7 36 i0 (ix (((gI Y.1 35 i0 1) * (nI 6)) + (nI 3))) (gI Y7.1 18 i1 (ix a2)))) (pc' := 75) (ls' := [(0, aR 35 i0), (1, aR 12 i1), (2, aI a2), (3, aI a3), (4, aI a4), (5, aI ((gI Y.1 35 i0 1) * (nI 6)))]) (st' := []) (cs' := [vp_in (nI 4) 6, vp_in a2 40, vp_in (((gI Y.1 35 i0 1) * (nI 6)) + (nI 3)) 360, allw 36 i0]) (fun _ => rfl) rfl (al2 (vin rfl) (al2 (vin hc1) (al2 (vin hc8) (al1 rfl)))) ?_
  replace h := wr_some h
  generalize (sI Y7 36 i0 (ix (((gI Y.1 35 i0 1) * (nI 6)) + (nI 3))) (gI Y7.1 18 i1 (ix a2))) = Y9 at h ⊢
  obtain ⟨hc10, h⟩ := ck_some h
  refine w_sw k11 7 (Z := (sI Y9 36 i0 (ix (((gI Y.1 35 i0 1) * (nI 6)) + (nI 4))) a3)) (pc' := 85) (ls' := [(0, aR 35 i0), (1, aR 12 i1), (2, aI a2), (3, aI a3), (4, aI a4), (5, aI ((gI Y.1 35 i0 1) * (nI 6)))]) (st' := []) (cs' := [vp_in (((gI Y.1 35 i0 1) * (nI 6)) + (nI 4)) 360, allw 36 i0]) (fun _ => rfl) rfl (al2 (vin hc10) (al1 rfl)) ?_
  replace h := wr_some h
  generalize (sI Y9 36 i0 (ix (((gI Y.1 35 i0 1) * (nI 6)) + (nI 4))) a3) = Y11 at h ⊢
  obtain ⟨hc12, h⟩ := ck_some h
  refine w_sw k11 7 (Z := (sI Y11 36 i0 (ix (((gI Y.1 35 i0 1) * (nI 6)) + (nI 5))) a4)) (pc' := 96) (ls' := [(0, aR 35 i0), (1, aR 12 i1), (2, aI a2), (3, aI a3), (4, aI a4), (5, aI ((gI Y.1 35 i0 1) * (nI 6)))]) (st' := []) (cs' := [vp_in (((gI Y.1 35 i0 1) * (nI 6)) + (nI 5)) 360, allw 36 i0]) (fun _ => rfl) rfl (al2 (vin hc12) (al1 rfl)) ?_
  replace h := wr_some h
  generalize (sI Y11 36 i0 (ix (((gI Y.1 35 i0 1) * (nI 6)) + (nI 5))) a4) = Y13 at h ⊢
  refine w_sw k11 8 (Z := (sI Y13 35 i0 1 (((gI Y13.1 35 i0 1) + (nI 1)) - ((gI Y13.1 35 i0 1) + (nI 1)) / (nI 60) * (nI 60)))) (pc' := 109) (ls' := [(0, aR 35 i0), (1, aR 12 i1), (2, aI a2), (3, aI a3), (4, aI a4), (5, aI ((gI Y.1 35 i0 1) * (nI 6)))]) (st' := []) (cs' := [¬ (nI 60) = 0, allw 35 i0]) (fun _ => rfl) rfl (al2 (by decide) (al1 rfl)) ?_
  replace h := wr_some h
  generalize (sI Y13 35 i0 1 (((gI Y13.1 35 i0 1) + (nI 1)) - ((gI Y13.1 35 i0 1) + (nI 1)) / (nI 60) * (nI 60))) = Y14 at h ⊢
  refine w_sw k11 8 (Z := (sI Y14 35 i0 2 (if (nI 60) < ((gI Y14.1 35 i0 2) + (nI 1)) then (nI 60) else ((gI Y14.1 35 i0 2) + (nI 1))))) (pc' := 124) (ls' := [(0, aR 35 i0), (1, aR 12 i1), (2, aI a2), (3, aI a3), (4, aI a4), (5, aI ((gI Y.1 35 i0 1) * (nI 6)))]) (st' := []) (cs' := [allw 35 i0]) (fun _ => rfl) rfl (al1 rfl) ?_
  replace h := wr_some h
  generalize (sI Y14 35 i0 2 (if (nI 60) < ((gI Y14.1 35 i0 2) + (nI 1)) then (nI 60) else ((gI Y14.1 35 i0 2) + (nI 1)))) = Y15 at h ⊢
  obtain rfl := Option.some.inj h
  exact w_return k11 ⟨rfl, rfl⟩
set_option maxRecDepth 20000 in
set_option maxHeartbeats 4000000 in
/-- BallotBus$Requests.removeAt -/
theorem sn_37 (i0 : Nat) (a1 : Int32) {Y : Sm} (v : Unit) (Z : Sm) (h : fn_37 i0 a1 Y = some (v, Z)) : Mt 4 0 37 [aR 12 i0, aI a1] Y (Rt none Z) nX := by
  refine Mt_of [(0, aR 12 i0), (1, aI a1)] ?_
  generalize ho : (v, Z) = o at h
  have hv9 : v = o.1 := congrArg Prod.fst ho
  have hZ9 : Z = o.2 := congrArg Prod.snd ho
  clear ho
  subst hv9 hZ9
  unfold fn_37 at h
  refine w_sg k37 1 (pc' := 1) (ls' := [(0, aR 12 i0), (1, aI a1)]) (st' := [aI a1]) (cs' := []) (fun _ => rfl) al0 ?_
  refine w_if_lt k37 rfl (fun c => ?_) (fun c => ?_)
  · replace h := if_t c h
    obtain rfl := Option.some.inj h
    exact w_return k37 ⟨rfl, rfl⟩
  · replace h := if_f c h
    refine w_sg k37 3 (pc' := 9) (ls' := [(0, aR 12 i0), (1, aI a1)]) (st' := [aI (gI Y.1 12 i0 1), aI a1]) (cs' := []) (fun _ => rfl) al0 ?_
    refine w_icmp_lt k37 rfl (fun c => ?_) (fun c => ?_)
    · replace h := if_t c h
      refine w_sg k37 4 (pc' := 18) (ls' := [(0, aR 12 i0), (1, aI a1), (2, aI (nI 0))]) (st' := [aI (nI 6), aI (nI 0)]) (cs' := []) (fun _ => rfl) al0 ?_
      refine w_icmp_ge k37 rfl (fun c => absurd c (by decide)) (fun _ => ?_)
      obtain ⟨hc1, h⟩ := ck_some h
      refine w_sw k37 19 (Z := (sC Y 14 i0 (ix (a1 + (nI 1))) 14 i0 (ix a1) (ix (((gI Y.1 12 i0 1) - a1) - (nI 1))))) (pc' := 48) (ls' := [(0, aR 12 i0), (1, aI a1), (2, aI (nI 0))]) (st' := []) (cs' := [vp_in (nI 0) 6, vp_in (nI 0) 6, ¬ (a1 + (nI 1)) < 0, ¬ a1 < 0, ¬ (((gI Y.1 12 i0 1) - a1) - (nI 1)) < 0, (ix (a1 + (nI 1))) + (ix (((gI Y.1 12 i0 1) - a1) - (nI 1))) ≤ 40, (ix a1) + (ix (((gI Y.1 12 i0 1) - a1) - (nI 1))) ≤ 40, allw 14 i0]) (fun _ => rfl) rfl (al2 (vin rfl) (al2 (vin rfl) (al2 (cpok1 hc1) (al2 (cpok2 hc1) (al2 (cpok3 hc1) (al2 (cpok4 hc1) (al2 (cpok5 hc1) (al1 rfl)))))))) ?_
      replace h := wr_some h
      generalize (sC Y 14 i0 (ix (a1 + (nI 1))) 14 i0 (ix a1) (ix (((gI Y.1 12 i0 1) - a1) - (nI 1)))) = Y2 at h ⊢
      refine w_sg k37 4 (pc' := 18) (ls' := [(0, aR 12 i0), (1, aI a1), (2, aI (nI 1))]) (st' := [aI (nI 6), aI (nI 1)]) (cs' := []) (fun _ => rfl) al0 ?_
      refine w_icmp_ge k37 rfl (fun c => absurd c (by decide)) (fun _ => ?_)
      obtain ⟨hc3, h⟩ := ck_some h
      refine w_sw k37 19 (Z := (sC Y2 15 i0 (ix (a1 + (nI 1))) 15 i0 (ix a1) (ix (((gI Y2.1 12 i0 1) - a1) - (nI 1))))) (pc' := 48) (ls' := [(0, aR 12 i0), (1, aI a1), (2, aI (nI 1))]) (st' := []) (cs' := [vp_in (nI 1) 6, vp_in (nI 1) 6, ¬ (a1 + (nI 1)) < 0, ¬ a1 < 0, ¬ (((gI Y2.1 12 i0 1) - a1) - (nI 1)) < 0, (ix (a1 + (nI 1))) + (ix (((gI Y2.1 12 i0 1) - a1) - (nI 1))) ≤ 40, (ix a1) + (ix (((gI Y2.1 12 i0 1) - a1) - (nI 1))) ≤ 40, allw 15 i0]) (fun _ => rfl) rfl (al2 (vin rfl) (al2 (vin rfl) (al2 (cpok1 hc3) (al2 (cpok2 hc3) (al2 (cpok3 hc3) (al2 (cpok4 hc3) (al2 (cpok5 hc3) (al1 rfl)))))))) ?_
      replace h := wr_some h
      generalize (sC Y2 15 i0 (ix (a1 + (nI 1))) 15 i0 (ix a1) (ix (((gI Y2.1 12 i0 1) - a1) - (nI 1)))) = Y4 at h ⊢
      refine w_sg k37 4 (pc' := 18) (ls' := [(0, aR 12 i0), (1, aI a1), (2, aI (nI 2))]) (st' := [aI (nI 6), aI (nI 2)]) (cs' := []) (fun _ => rfl) al0 ?_
      refine w_icmp_ge k37 rfl (fun c => absurd c (by decide)) (fun _ => ?_)
      obtain ⟨hc5, h⟩ := ck_some h
      refine w_sw k37 19 (Z := (sC Y4 16 i0 (ix (a1 + (nI 1))) 16 i0 (ix a1) (ix (((gI Y4.1 12 i0 1) - a1) - (nI 1))))) (pc' := 48) (ls' := [(0, aR 12 i0), (1, aI a1), (2, aI (nI 2))]) (st' := []) (cs' := [vp_in (nI 2) 6, vp_in (nI 2) 6, ¬ (a1 + (nI 1)) < 0, ¬ a1 < 0, ¬ (((gI Y4.1 12 i0 1) - a1) - (nI 1)) < 0, (ix (a1 + (nI 1))) + (ix (((gI Y4.1 12 i0 1) - a1) - (nI 1))) ≤ 40, (ix a1) + (ix (((gI Y4.1 12 i0 1) - a1) - (nI 1))) ≤ 40, allw 16 i0]) (fun _ => rfl) rfl (al2 (vin rfl) (al2 (vin rfl) (al2 (cpok1 hc5) (al2 (cpok2 hc5) (al2 (cpok3 hc5) (al2 (cpok4 hc5) (al2 (cpok5 hc5) (al1 rfl)))))))) ?_
      replace h := wr_some h
      generalize (sC Y4 16 i0 (ix (a1 + (nI 1))) 16 i0 (ix a1) (ix (((gI Y4.1 12 i0 1) - a1) - (nI 1)))) = Y6 at h ⊢
      refine w_sg k37 4 (pc' := 18) (ls' := [(0, aR 12 i0), (1, aI a1), (2, aI (nI 3))]) (st' := [aI (nI 6), aI (nI 3)]) (cs' := []) (fun _ => rfl) al0 ?_
      refine w_icmp_ge k37 rfl (fun c => absurd c (by decide)) (fun _ => ?_)
      obtain ⟨hc7, h⟩ := ck_some h
      refine w_sw k37 19 (Z := (sC Y6 17 i0 (ix (a1 + (nI 1))) 17 i0 (ix a1) (ix (((gI Y6.1 12 i0 1) - a1) - (nI 1))))) (pc' := 48) (ls' := [(0, aR 12 i0), (1, aI a1), (2, aI (nI 3))]) (st' := []) (cs' := [vp_in (nI 3) 6, vp_in (nI 3) 6, ¬ (a1 + (nI 1)) < 0, ¬ a1 < 0, ¬ (((gI Y6.1 12 i0 1) - a1) - (nI 1)) < 0, (ix (a1 + (nI 1))) + (ix (((gI Y6.1 12 i0 1) - a1) - (nI 1))) ≤ 40, (ix a1) + (ix (((gI Y6.1 12 i0 1) - a1) - (nI 1))) ≤ 40, allw 17 i0]) (fun _ => rfl) rfl (al2 (vin rfl) (al2 (vin rfl) (al2 (cpok1 hc7) (al2 (cpok2 hc7) (al2 (cpok3 hc7) (al2 (cpok4 hc7) (al2 (cpok5 hc7) (al1 rfl)))))))) ?_
      replace h := wr_some h
      generalize (sC Y6 17 i0 (ix (a1 + (nI 1))) 17 i0 (ix a1) (ix (((gI Y6.1 12 i0 1) - a1) - (nI 1)))) = Y8 at h ⊢
      refine w_sg k37 4 (pc' := 18) (ls' := [(0, aR 12 i0), (1, aI a1), (2, aI (nI 4))]) (st' := [aI (nI 6), aI (nI 4)]) (cs' := []) (fun _ => rfl) al0 ?_
      refine w_icmp_ge k37 rfl (fun c => absurd c (by decide)) (fun _ => ?_)
      obtain ⟨hc9, h⟩ := ck_some h
      refine w_sw k37 19 (Z := (sC Y8 18 i0 (ix (a1 + (nI 1))) 18 i0 (ix a1) (ix (((gI Y8.1 12 i0 1) - a1) - (nI 1))))) (pc' := 48) (ls' := [(0, aR 12 i0), (1, aI a1), (2, aI (nI 4))]) (st' := []) (cs' := [vp_in (nI 4) 6, vp_in (nI 4) 6, ¬ (a1 + (nI 1)) < 0, ¬ a1 < 0, ¬ (((gI Y8.1 12 i0 1) - a1) - (nI 1)) < 0, (ix (a1 + (nI 1))) + (ix (((gI Y8.1 12 i0 1) - a1) - (nI 1))) ≤ 40, (ix a1) + (ix (((gI Y8.1 12 i0 1) - a1) - (nI 1))) ≤ 40, allw 18 i0]) (fun _ => rfl) rfl (al2 (vin rfl) (al2 (vin rfl) (al2 (cpok1 hc9) (al2 (cpok2 hc9) (al2 (cpok3 hc9) (al2 (cpok4 hc9) (al2 (cpok5 hc9) (al1 rfl)))))))) ?_
      replace h := wr_some h
      generalize (sC Y8 18 i0 (ix (a1 + (nI 1))) 18 i0 (ix a1) (ix (((gI Y8.1 12 i0 1) - a1) - (nI 1)))) = Y10 at h ⊢
      refine w_sg k37 4 (pc' := 18) (ls' := [(0, aR 12 i0), (1, aI a1), (2, aI (nI 5))]) (st' := [aI (nI 6), aI (nI 5)]) (cs' := []) (fun _ => rfl) al0 ?_
      refine w_icmp_ge k37 rfl (fun c => absurd c (by decide)) (fun _ => ?_)
      obtain ⟨hc11, h⟩ := ck_some h
      refine w_sw k37 19 (Z := (sC Y10 19 i0 (ix (a1 + (nI 1))) 19 i0 (ix a1) (ix (((gI Y10.1 12 i0 1) - a1) - (nI 1))))) (pc' := 48) (ls' := [(0, aR 12 i0), (1, aI a1), (2, aI (nI 5))]) (st' := []) (cs' := [vp_in (nI 5) 6, vp_in (nI 5) 6, ¬ (a1 + (nI 1)) < 0, ¬ a1 < 0, ¬ (((gI Y10.1 12 i0 1) - a1) - (nI 1)) < 0, (ix (a1 + (nI 1))) + (ix (((gI Y10.1 12 i0 1) - a1) - (nI 1))) ≤ 40, (ix a1) + (ix (((gI Y10.1 12 i0 1) - a1) - (nI 1))) ≤ 40, allw 19 i0]) (fun _ => rfl) rfl (al2 (vin rfl) (al2 (vin rfl) (al2 (cpok1 hc11) (al2 (cpok2 hc11) (al2 (cpok3 hc11) (al2 (cpok4 hc11) (al2 (cpok5 hc11) (al1 rfl)))))))) ?_
      replace h := wr_some h
      generalize (sC Y10 19 i0 (ix (a1 + (nI 1))) 19 i0 (ix a1) (ix (((gI Y10.1 12 i0 1) - a1) - (nI 1)))) = Y12 at h ⊢
      refine w_sg k37 4 (pc' := 18) (ls' := [(0, aR 12 i0), (1, aI a1), (2, aI (nI 6))]) (st' := [aI (nI 6), aI (nI 6)]) (cs' := []) (fun _ => rfl) al0 ?_
      refine w_icmp_ge k37 rfl (fun _ => ?_) (fun c => absurd c (by decide))
      refine w_sw k37 6 (Z := (sI Y12 12 i0 1 ((gI Y12.1 12 i0 1) - (nI 1)))) (pc' := 64) (ls' := [(0, aR 12 i0), (1, aI a1), (2, aI (nI 6))]) (st' := []) (cs' := [allw 12 i0]) (fun _ => rfl) rfl (al1 rfl) ?_
      replace h := wr_some h
      generalize (sI Y12 12 i0 1 ((gI Y12.1 12 i0 1) - (nI 1))) = Y13 at h ⊢
      obtain rfl := Option.some.inj h
      exact w_return k37 ⟨rfl, rfl⟩
    · replace h := if_f c h
      obtain rfl := Option.some.inj h
      exact w_return k37 ⟨rfl, rfl⟩
set_option maxRecDepth 20000 in
set_option maxHeartbeats 4000000 in
/-- BallotBus$State.finish -/
theorem sn_92 (i0 : Nat) (a1 : Int32) {Y : Sm} (v : Unit) (Z : Sm) (h : fn_92 i0 a1 Y = some (v, Z)) : Mt 5 0 92 [aR 21 i0, aI a1] Y (Rt none Z) nX := by
  refine Mt_of [(0, aR 21 i0), (1, aI a1)] ?_
  generalize ho : (v, Z) = o at h
  have hv9 : v = o.1 := congrArg Prod.fst ho
  have hZ9 : Z = o.2 := congrArg Prod.snd ho
  clear ho
  subst hv9 hZ9
  unfold fn_92 at h
  obtain ⟨hc1, h⟩ := ck_some h
  refine w_sg k92 26 (pc' := 40) (ls' := [(0, aR 21 i0), (1, aI a1), (2, aI (gI Y.1 14 (i0 + 3) (ix a1))), (3, aI (gI Y.1 15 (i0 + 3) (ix a1)))]) (st' := [aI (gI Y.1 16 (i0 + 3) (ix a1)), aI (gI Y.1 14 (i0 + 3) (ix a1)), aR 28 i0]) (cs' := [vp_in (nI 0) 6, vp_in a1 40, vp_in (nI 1) 6, vp_in a1 40, vp_in (nI 2) 6, vp_in a1 40]) (fun _ => rfl) (al2 (vin rfl) (al2 (vin hc1) (al2 (vin rfl) (al2 (vin hc1) (al2 (vin rfl) (al1 (vin hc1))))))) ?_
  obtain ⟨v4, Y2, hv3, h⟩ := bd_some h
  refine w_cV1 k92 (sn_7 _ _ _ _ _ hv3) rfl (st := []) rfl ?_ (fun _ _ q => q.elim)
  obtain ⟨hc5, h⟩ := ck_some h
  refine w_sw k92 9 (Z := (sI Y2 24 i0 (ix (gI Y.1 15 (i0 + 3) (ix a1))) ((gI Y2.1 24 i0 (ix (gI Y.1 15 (i0 + 3) (ix a1)))) + (nI 1)))) (pc' := 55) (ls' := [(0, aR 21 i0), (1, aI a1), (2, aI (gI Y.1 14 (i0 + 3) (ix a1))), (3, aI (gI Y.1 15 (i0 + 3) (ix a1))), (4, aI v4)]) (st' := []) (cs' := [vp_in (gI Y.1 15 (i0 + 3) (ix a1)) 5, vp_in (gI Y.1 15 (i0 + 3) (ix a1)) 5, allw 24 i0]) (fun _ => rfl) rfl (al2 (vin hc5) (al2 (vin hc5) (al1 rfl))) ?_
  replace h := wr_some h
  generalize (sI Y2 24 i0 (ix (gI Y.1 15 (i0 + 3) (ix a1))) ((gI Y2.1 24 i0 (ix (gI Y.1 15 (i0 + 3) (ix a1)))) + (nI 1))) = Y6 at h ⊢
  refine w_sw k92 18 (Z := (sJ Y6 25 i0 (ix (gI Y.1 15 (i0 + 3) (ix a1))) ((gJ Y6.1 25 i0 (ix (gI Y.1 15 (i0 + 3) (ix a1)))) + (((gI Y6.1 21 i0 1) - (gI Y6.1 18 (i0 + 3) (ix a1))).toInt64)))) (pc' := 81) (ls' := [(0, aR 21 i0), (1, aI a1), (2, aI (gI Y.1 14 (i0 + 3) (ix a1))), (3, aI (gI Y.1 15 (i0 + 3) (ix a1))), (4, aI v4)]) (st' := []) (cs' := [vp_in (gI Y.1 15 (i0 + 3) (ix a1)) 5, vp_in (nI 4) 6, vp_in a1 40, vp_in (gI Y.1 15 (i0 + 3) (ix a1)) 5, allw 25 i0]) (fun _ => rfl) rfl (al2 (vin hc5) (al2 (vin rfl) (al2 (vin hc1) (al2 (vin hc5) (al1 rfl))))) ?_
  replace h := wr_some h
  generalize (sJ Y6 25 i0 (ix (gI Y.1 15 (i0 + 3) (ix a1))) ((gJ Y6.1 25 i0 (ix (gI Y.1 15 (i0 + 3) (ix a1)))) + (((gI Y6.1 21 i0 1) - (gI Y6.1 18 (i0 + 3) (ix a1))).toInt64))) = Y7 at h ⊢
  refine w_sw k92 6 (Z := (sI Y7 21 i0 8 ((gI Y7.1 21 i0 8) + (nI 1)))) (pc' := 91) (ls' := [(0, aR 21 i0), (1, aI a1), (2, aI (gI Y.1 14 (i0 + 3) (ix a1))), (3, aI (gI Y.1 15 (i0 + 3) (ix a1))), (4, aI v4)]) (st' := []) (cs' := [allw 21 i0]) (fun _ => rfl) rfl (al1 rfl) ?_
  replace h := wr_some h
  generalize (sI Y7 21 i0 8 ((gI Y7.1 21 i0 8) + (nI 1))) = Y8 at h ⊢
  refine w_sg k92 8 (pc' := 106) (ls' := [(0, aR 21 i0), (1, aI a1), (2, aI (gI Y.1 14 (i0 + 3) (ix a1))), (3, aI (gI Y.1 15 (i0 + 3) (ix a1))), (4, aI v4)]) (st' := [aI v4, aI (gI Y8.1 21 i0 1), aI a1, aR 12 (i0 + 3), aR 35 i0]) (cs' := []) (fun _ => rfl) al0 ?_
  obtain ⟨_, Y9, hv10, h⟩ := bd_some h
  refine w_cV0 k92 (sn_11 _ _ _ _ _ _ _ hv10) rfl (st := []) rfl ?_ (fun _ _ q => q.elim)
  refine w_sw k92 4 (Z := (sI Y9 12 (i0 + 3) 2 (-1 : Int32))) (pc' := 117) (ls' := [(0, aR 21 i0), (1, aI a1), (2, aI (gI Y.1 14 (i0 + 3) (ix a1))), (3, aI (gI Y.1 15 (i0 + 3) (ix a1))), (4, aI v4)]) (st' := []) (cs' := [allw 12 (i0 + 3)]) (fun _ => rfl) rfl (al1 rfl) ?_
  replace h := wr_some h
  generalize (sI Y9 12 (i0 + 3) 2 (-1 : Int32)) = Y11 at h ⊢
  refine w_sg k92 3 (pc' := 122) (ls' := [(0, aR 21 i0), (1, aI a1), (2, aI (gI Y.1 14 (i0 + 3) (ix a1))), (3, aI (gI Y.1 15 (i0 + 3) (ix a1))), (4, aI v4)]) (st' := [aI a1, aR 12 (i0 + 3)]) (cs' := []) (fun _ => rfl) al0 ?_
  obtain ⟨_, Y12, hv13, h⟩ := bd_some h
  refine w_cV0 k92 (sn_37 _ _ _ _ hv13) rfl (st := []) rfl ?_ (fun _ _ q => q.elim)
  obtain rfl := Option.some.inj h
  exact w_return k92 ⟨rfl, rfl⟩
set_option maxRecDepth 20000 in
set_option maxHeartbeats 4000000 in
/-- BallotBus$State.work -/
theorem sn_91 (i0 : Nat) {Y : Sm} (v : Unit) (Z : Sm) (h : fn_91 i0 Y = some (v, Z)) : Mt 6 0 91 [aR 21 i0] Y (Rt none Z) nX := by
  refine Mt_of [(0, aR 21 i0)] ?_
  generalize ho : (v, Z) = o at h
  have hv9 : v = o.1 := congrArg Prod.fst ho
  have hZ9 : Z = o.2 := congrArg Prod.snd ho
  clear ho
  subst hv9 hZ9
  unfold fn_91 at h
  refine w_sg k91 5 (pc' := 11) (ls' := [(0, aR 21 i0)]) (st' := [aI (gI Y.1 12 (i0 + 3) 2), aR 12 (i0 + 3)]) (cs' := []) (fun _ => rfl) al0 ?_
  obtain ⟨v3, Y1, hv2, h⟩ := bd_some h
  refine w_cV1 k91 (sn_38 _ _ _ _ hv2) rfl (st := []) rfl ?_ (fun _ _ q => q.elim)
  refine w_sg k91 3 (pc' := 17) (ls' := [(0, aR 21 i0), (1, aI v3)]) (st' := [aI (-1 : Int32), aI v3]) (cs' := []) (fun _ => rfl) al0 ?_
  refine w_icmp_ne k91 rfl (fun c => ?_) (fun c => ?_)
  · replace h := if_f c h
    obtain ⟨hc4, h⟩ := ck_some h
    refine w_sw k91 11 (Z := (sI Y1 17 (i0 + 3) (ix v3) ((gI Y1.1 17 (i0 + 3) (ix v3)) - (nI 1)))) (pc' := 36) (ls' := [(0, aR 21 i0), (1, aI v3)]) (st' := []) (cs' := [vp_in (nI 3) 6, vp_in v3 40, vp_in v3 40, allw 17 (i0 + 3)]) (fun _ => rfl) rfl (al2 (vin rfl) (al2 (vin hc4) (al2 (vin hc4) (al1 rfl)))) ?_
    replace h := wr_some h
    generalize (sI Y1 17 (i0 + 3) (ix v3) ((gI Y1.1 17 (i0 + 3) (ix v3)) - (nI 1))) = Y5 at h ⊢
    refine w_sg k91 7 (pc' := 47) (ls' := [(0, aR 21 i0), (1, aI v3)]) (st' := [aI (gI Y5.1 17 (i0 + 3) (ix v3))]) (cs' := [vp_in (nI 3) 6, vp_in v3 40]) (fun _ => rfl) (al2 (vin rfl) (al1 (vin hc4))) ?_
    refine w_if_gt k91 rfl (fun c => ?_) (fun c => ?_)
    · replace h := if_t c h
      obtain rfl := Option.some.inj h
      exact w_return k91 ⟨rfl, rfl⟩
    · replace h := if_f c h
      refine w_sg k91 2 (pc' := 52) (ls' := [(0, aR 21 i0), (1, aI v3)]) (st' := [aI v3, aR 21 i0]) (cs' := []) (fun _ => rfl) al0 ?_
      obtain ⟨_, Y6, hv7, h⟩ := bd_some h
      refine w_cV0 k91 (sn_92 _ _ _ _ hv7) rfl (st := []) rfl ?_ (fun _ _ q => q.elim)
      obtain rfl := Option.some.inj h
      exact w_return k91 ⟨rfl, rfl⟩
  · replace h := if_t c h
    obtain rfl := Option.some.inj h
    exact w_return k91 ⟨rfl, rfl⟩
set_option maxRecDepth 20000 in
set_option maxHeartbeats 4000000 in
/-- BallotBus$State.takeUp -/
theorem sn_90 (i0 : Nat) {Y : Sm} (v : Unit) (Z : Sm) (h : fn_90 i0 Y = some (v, Z)) : Mt 7 0 90 [aR 21 i0] Y (Rt none Z) nX := by
  refine Mt_of [(0, aR 21 i0)] ?_
  generalize ho : (v, Z) = o at h
  have hv9 : v = o.1 := congrArg Prod.fst ho
  have hZ9 : Z = o.2 := congrArg Prod.snd ho
  clear ho
  subst hv9 hZ9
  unfold fn_90 at h
  have L2_0 : ∀ (l0 : Nat) (n : Nat) (l1 : Int32) (Y : Sm) (e4 : (Int32 × Sm) ⊕ (Unit × Sm)), lp (fun s => fn_90_L2 l0 s.1 s.2) n (l1, Y) = some e4 → (∀ s9 : (Int32 × Sm), e4 = .inl s9 → Wm 7 0 90 0 46 [(0, aR 21 l0), (2, aI s9.1)] [] s9.2 (Rt none o.2) nX) → (∀ r, e4 = .inr r → r = o) → Wm 7 0 90 0 2 [(0, aR 21 l0), (1, aI l1)] [] Y (Rt none o.2) nX := by
    intro l0 n
    induction n with
    | zero => intro l1 Y e4 h; cases h
    | succ n ih3 =>
      intro l1 Y e4 h kE5 kR6
      obtain ⟨q1, h, hn2⟩ := lp_succ h
      replace h : fn_90_L2 l0 l1 Y = some q1 := h
      unfold fn_90_L2 at h
      have J40_0 : ∀ (l1 : Int32) (t0 : Int32) (Y : Sm), fn_90_J40_d1 l0 l1 t0 Y = some q1 → Wm 7 0 90 0 40 [(0, aR 21 l0), (1, aI l1)] [aI t0] Y (Rt none o.2) nX := by
        intro l1 t0 Y h
        unfold fn_90_J40_d1 at h
        refine w_sg k90 3 (pc' := 43) (ls' := [(0, aR 21 l0), (1, aI l1), (2, aI t0)]) (st' := [aI (-1 : Int32), aI t0]) (cs' := []) (fun _ => rfl) al0 ?_
        refine w_icmp_eq k90 rfl (fun c => ?_) (fun c => ?_)
        · replace h := if_t c h
          refine w_sg k90 2 (pc' := 2) (ls' := [(0, aR 21 l0), (1, aI (l1 + (nI 1))), (2, aI t0)]) (st' := []) (cs' := []) (fun _ => rfl) al0 ?_
          refine w_ls [(0, aR 21 l0), (1, aI (l1 + (nI 1)))] (lq_c rfl (lq_c rfl lq_n)) ?_
          obtain rfl := Option.some.inj h
          exact ih3 _ _ _ (lpn_l hn2) kE5 kR6
        · replace h := if_f c h
          refine w_ls [(0, aR 21 l0), (2, aI t0)] (lq_c rfl (lq_c rfl lq_n)) ?_
          obtain rfl := Option.some.inj h
          obtain rfl := lpn_r hn2
          exact kE5 _ rfl
      refine w_sg k90 4 (pc' := 10) (ls' := [(0, aR 21 l0), (1, aI l1)]) (st' := [aI (gI Y.1 5 (Y.2 (l0 + 3)) 0), aI l1]) (cs' := []) (fun _ => rfl) al0 ?_
      refine w_icmp_ge k90 rfl (fun c => ?_) (fun c => ?_)
      · replace h := if_t c h
        obtain rfl := Option.some.inj h
        obtain rfl := lpn_r hn2
        obtain rfl := kR6 _ rfl
        exact w_return k90 ⟨rfl, rfl⟩
      · replace h := if_f c h
        obtain ⟨hc7, h⟩ := ck_some h
        refine w_sg k90 5 (pc' := 20) (ls' := [(0, aR 21 l0), (1, aI l1)]) (st' := [aI (gI Y.1 22 l0 (ix l1)), aR 21 l0]) (cs' := [vp_in l1 5]) (fun _ => rfl) (al1 (vin hc7)) ?_
        obtain ⟨v10, Y8, hv9, h⟩ := bd_some h
        refine w_cV1 k90 (sn_74 _ _ _ _ hv9) rfl (st := []) rfl ?_ (fun _ _ q => q.elim)
        refine w_if_eq k90 rfl (fun c => ?_) (fun c => ?_)
        · replace h := if_t c h
          refine w_sg k90 5 (pc' := 37) (ls' := [(0, aR 21 l0), (1, aI l1)]) (st' := [aI (gI Y8.1 22 l0 (ix l1)), aR 21 l0]) (cs' := [vp_in l1 5]) (fun _ => rfl) (al1 (vin hc7)) ?_
          obtain ⟨v13, Y11, hv12, h⟩ := bd_some h
          refine w_cV1 k90 (sn_76 _ _ _ _ hv12) rfl (st := []) rfl ?_ (fun _ _ q => q.elim)
          refine w_ls [(0, aR 21 l0), (1, aI l1)] (lq_c rfl (lq_c rfl lq_n)) ?_
          exact J40_0 _ _ _ h
        · replace h := if_f c h
          refine w_sg k90 2 (pc' := 40) (ls' := [(0, aR 21 l0), (1, aI l1)]) (st' := [aI (-1 : Int32)]) (cs' := []) (fun _ => rfl) al0 ?_
          refine w_ls [(0, aR 21 l0), (1, aI l1)] (lq_c rfl (lq_c rfl lq_n)) ?_
          exact J40_0 _ _ _ h
  have J46_0 : ∀ (l0 : Nat) (l2 : Int32) (Y : Sm), fn_90_J46 l0 l2 Y = some o → Wm 7 0 90 0 46 [(0, aR 21 l0), (2, aI l2)] [] Y (Rt none o.2) nX := by
    intro l0 l2 Y h
    unfold fn_90_J46 at h
    refine w_sg k90 5 (pc' := 55) (ls' := [(0, aR 21 l0), (2, aI l2)]) (st' := [aI l2, aR 12 (l0 + 3), aR 12 (l0 + 3)]) (cs' := []) (fun _ => rfl) al0 ?_
    obtain ⟨v16, Y14, hv15, h⟩ := bd_some h
    refine w_cV1 k90 (sn_39 _ _ _ _ hv15) rfl (st := [aR 12 (l0 + 3)]) rfl ?_ (fun _ _ q => q.elim)
    refine w_sw k90 1 (Z := (sI Y14 12 (l0 + 3) 2 v16)) (pc' := 61) (ls' := [(0, aR 21 l0), (2, aI l2)]) (st' := []) (cs' := [allw 12 (l0 + 3)]) (fun _ => rfl) rfl (al1 rfl) ?_
    replace h := wr_some h
    generalize (sI Y14 12 (l0 + 3) 2 v16) = Y17 at h ⊢
    obtain rfl := Option.some.inj h
    exact w_return k90 ⟨rfl, rfl⟩
  refine w_sg k90 2 (pc' := 2) (ls' := [(0, aR 21 i0), (1, aI (nI 0))]) (st' := []) (cs' := []) (fun _ => rfl) al0 ?_
  obtain ⟨e20, hl18, hx19⟩ := exd_some h
  refine w_ls [(0, aR 21 i0), (1, aI (nI 0))] (lq_c rfl (lq_c rfl lq_n)) ?_
  refine L2_0 _ _ _ _ e20 hl18 (fun s9 hs9 => ?_) (fun r9 hr9 => ?_)
  · subst hs9
    replace h : fn_90_J46 i0 s9.1 s9.2 = some o := hx19
    refine w_ls [(0, aR 21 i0), (2, aI s9.1)] (lq_c rfl (lq_c rfl lq_n)) ?_
    exact J46_0 _ _ _ h
  · subst hr9
    exact hx19
set_option maxRecDepth 20000 in
set_option maxHeartbeats 4000000 in
/-- BallotBus$State.passTurn -/
theorem sn_89 (i0 : Nat) {Y : Sm} (v : Unit) (Z : Sm) (h : fn_89 i0 Y = some (v, Z)) : Mt 4 0 89 [aR 21 i0] Y (Rt none Z) nX := by
  refine Mt_of [(0, aR 21 i0)] ?_
  generalize ho : (v, Z) = o at h
  have hv9 : v = o.1 := congrArg Prod.fst ho
  have hZ9 : Z = o.2 := congrArg Prod.snd ho
  clear ho
  subst hv9 hZ9
  unfold fn_89 at h
  have J38_0 : ∀ (l0 : Nat) (Y : Sm), fn_89_J38 l0 Y = some o → Wm 4 0 89 0 38 [(0, aR 21 l0)] [] Y (Rt none o.2) nX := by
    intro l0 Y h
    unfold fn_89_J38 at h
    refine w_sw k89 3 (Z := (sI Y 21 l0 4 (nI 0))) (pc' := 43) (ls' := [(0, aR 21 l0)]) (st' := []) (cs' := [allw 21 l0, (nI 0) = 0 ∨ (nI 0) = 1]) (fun _ => rfl) rfl (al2 rfl (al1 (Or.inl rfl))) ?_
    replace h := wr_some h
    generalize (sI Y 21 l0 4 (nI 0)) = Y1 at h ⊢
    refine w_sg k89 8 (pc' := 57) (ls' := [(0, aR 21 l0)]) (st' := [aI (gI Y1.1 5 (Y1.2 (l0 + 3)) 3), aI ((gI Y1.1 21 l0 3) + (nI 1)), aR 21 l0]) (cs' := []) (fun _ => rfl) al0 ?_
    refine w_icmp_ge k89 rfl (fun c => ?_) (fun c => ?_)
    · replace h := if_t c h
      refine w_sw k89 2 (Z := (sI Y1 21 l0 3 (nI 0))) (pc' := 73) (ls' := [(0, aR 21 l0)]) (st' := []) (cs' := [allw 21 l0]) (fun _ => rfl) rfl (al1 rfl) ?_
      replace h := wr_some h
      generalize (sI Y1 21 l0 3 (nI 0)) = Y2 at h ⊢
      obtain rfl := Option.some.inj h
      exact w_return k89 ⟨rfl, rfl⟩
    · replace h := if_f c h
      refine w_sw k89 6 (Z := (sI Y1 21 l0 3 ((gI Y1.1 21 l0 3) + (nI 1)))) (pc' := 73) (ls' := [(0, aR 21 l0)]) (st' := []) (cs' := [allw 21 l0]) (fun _ => rfl) rfl (al1 rfl) ?_
      replace h := wr_some h
      generalize (sI Y1 21 l0 3 ((gI Y1.1 21 l0 3) + (nI 1))) = Y3 at h ⊢
      obtain rfl := Option.some.inj h
      exact w_return k89 ⟨rfl, rfl⟩
  refine w_sg k89 2 (pc' := 4) (ls' := [(0, aR 21 i0)]) (st' := [aI (gI Y.1 21 i0 4)]) (cs' := []) (fun _ => rfl) al0 ?_
  refine w_if_ne k89 rfl (fun c => ?_) (fun c => ?_)
  · replace h := if_f c h
    refine w_ls [(0, aR 21 i0)] (lq_c rfl lq_n) ?_
    exact J38_0 _ _ h
  · replace h := if_t c h
    obtain ⟨hc4, h⟩ := ck_some h
    refine w_sw k89 16 (Z := (sI Y 31 i0 (ix (gI Y.1 21 i0 3)) (if ((gI Y.1 31 i0 (ix (gI Y.1 21 i0 3))) + (nI 1)) < (nI 99) then ((gI Y.1 31 i0 (ix (gI Y.1 21 i0 3))) + (nI 1)) else (nI 99)))) (pc' := 38) (ls' := [(0, aR 21 i0)]) (st' := []) (cs' := [vp_in (gI Y.1 21 i0 3) 8, vp_in (gI Y.1 21 i0 3) 8, allw 31 i0]) (fun _ => rfl) rfl (al2 (vin hc4) (al2 (vin hc4) (al1 rfl))) ?_
    replace h := wr_some h
    generalize (sI Y 31 i0 (ix (gI Y.1 21 i0 3)) (if ((gI Y.1 31 i0 (ix (gI Y.1 21 i0 3))) + (nI 1)) < (nI 99) then ((gI Y.1 31 i0 (ix (gI Y.1 21 i0 3))) + (nI 1)) else (nI 99))) = Y5 at h ⊢
    refine w_ls [(0, aR 21 i0)] (lq_c rfl lq_n) ?_
    exact J38_0 _ _ h
set_option maxRecDepth 20000 in
set_option maxHeartbeats 4000000 in
/-- BallotBus$Poll.rank -/
theorem sn_30_39_22 (a1 : Int32) (i2 : Nat) {Y : Sm} (v : Unit) (Z : Sm) (h : fn_30_39_22 a1 i2 Y = some (v, Z)) : Mt 6 0 30 [aR 39 0, aI a1, aR 22 i2] Y (Rt none Z) nX := by
  refine Mt_of [(0, aR 39 0), (1, aI a1), (2, aR 22 i2)] ?_
  generalize ho : (v, Z) = o at h
  have hv9 : v = o.1 := congrArg Prod.fst ho
  have hZ9 : Z = o.2 := congrArg Prod.snd ho
  clear ho
  subst hv9 hZ9
  unfold fn_30_39_22 at h
  have L10_0 : ∀ (l1 : Int32) (l2 : Nat) (n : Nat) (l3 : Int32) (Y : Sm), lp (fun s => fn_30_39_22_L10 l1 l2 s.1 s.2) n (l3, Y) = some o → Wm 6 0 30 0 10 [(0, aR 39 0), (1, aI l1), (2, aR 22 l2), (3, aI l3)] [] Y (Rt none o.2) nX := by
    intro l1 l2 n
    induction n with
    | zero => intro l3 Y h; cases h
    | succ n ih3 =>
      intro l3 Y h
      obtain ⟨q1, h, hn2⟩ := lp_succ h
      replace h : fn_30_39_22_L10 l1 l2 l3 Y = some q1 := h
      unfold fn_30_39_22_L10 at h
      have L21_0 : ∀ (l3 : Int32) (n : Nat) (l4 : Int32) (Y : Sm), lp (fun s => fn_30_39_22_L21_d1 l1 l2 l3 s.1 s.2) n (l4, Y) = some q1 → Wm 6 0 30 0 21 [(0, aR 39 0), (1, aI l1), (2, aR 22 l2), (3, aI l3), (4, aI l4)] [] Y (Rt none o.2) nX := by
        intro l3 n
        induction n with
        | zero => intro l4 Y h; cases h
        | succ n ih6 =>
          intro l4 Y h
          obtain ⟨q4, h, hn5⟩ := lp_succ h
          replace h : fn_30_39_22_L21_d1 l1 l2 l3 l4 Y = some q4 := h
          unfold fn_30_39_22_L21_d1 at h
          refine w_sg k30 1 (pc' := 23) (ls' := [(0, aR 39 0), (1, aI l1), (2, aR 22 l2), (3, aI l3), (4, aI l4)]) (st' := [aI l4]) (cs' := []) (fun _ => rfl) al0 ?_
          refine w_if_le k30 rfl (fun c => ?_) (fun c => ?_)
          · replace h := if_t c h
            obtain ⟨hc7, h⟩ := ck_some h
            refine w_sw k30 4 (Z := (sI Y 22 l2 (ix l4) l3)) (pc' := 62) (ls' := [(0, aR 39 0), (1, aI l1), (2, aR 22 l2), (3, aI l3), (4, aI l4)]) (st' := []) (cs' := [vp_in l4 5, allw 22 l2]) (fun _ => rfl) rfl (al2 (vin hc7) (al1 rfl)) ?_
            replace h := wr_some h
            generalize (sI Y 22 l2 (ix l4) l3) = Y8 at h ⊢
            refine w_sg k30 2 (pc' := 10) (ls' := [(0, aR 39 0), (1, aI l1), (2, aR 22 l2), (3, aI (l3 + (nI 1))), (4, aI l4)]) (st' := []) (cs' := []) (fun _ => rfl) al0 ?_
            refine w_ls [(0, aR 39 0), (1, aI l1), (2, aR 22 l2), (3, aI (l3 + (nI 1)))] (lq_c rfl (lq_c rfl (lq_c rfl (lq_c rfl lq_n)))) ?_
            obtain rfl := Option.some.inj h
            obtain rfl := lpn_r hn5
            exact ih3 _ _ (lpn_l hn2)
          · replace h := if_f c h
            obtain ⟨hc9, h⟩ := ck_some h
            refine w_sg k30 8 (pc' := 35) (ls' := [(0, aR 39 0), (1, aI l1), (2, aR 22 l2), (3, aI l3), (4, aI l4)]) (st' := [aI l1, aI (gI Y.1 22 l2 (ix (l4 - (nI 1)))), aI l3, aR 39 0]) (cs' := [vp_in (l4 - (nI 1)) 5]) (fun _ => rfl) (al1 (vin hc9)) ?_
            obtain ⟨v12, Y10, hv11, h⟩ := bd_some h
            refine w_cV1 k30 (sn_31 _ _ _ _ _ hv11) rfl (st := []) rfl ?_ (fun _ _ q => q.elim)
            refine w_if_eq k30 rfl (fun c => ?_) (fun c => ?_)
            · replace h := if_t c h
              obtain ⟨hc13, h⟩ := ck_some h
              refine w_sw k30 4 (Z := (sI Y10 22 l2 (ix l4) l3)) (pc' := 62) (ls' := [(0, aR 39 0), (1, aI l1), (2, aR 22 l2), (3, aI l3), (4, aI l4)]) (st' := []) (cs' := [vp_in l4 5, allw 22 l2]) (fun _ => rfl) rfl (al2 (vin hc13) (al1 rfl)) ?_
              replace h := wr_some h
              generalize (sI Y10 22 l2 (ix l4) l3) = Y14 at h ⊢
              refine w_sg k30 2 (pc' := 10) (ls' := [(0, aR 39 0), (1, aI l1), (2, aR 22 l2), (3, aI (l3 + (nI 1))), (4, aI l4)]) (st' := []) (cs' := []) (fun _ => rfl) al0 ?_
              refine w_ls [(0, aR 39 0), (1, aI l1), (2, aR 22 l2), (3, aI (l3 + (nI 1)))] (lq_c rfl (lq_c rfl (lq_c rfl (lq_c rfl lq_n)))) ?_
              obtain rfl := Option.some.inj h
              obtain rfl := lpn_r hn5
              exact ih3 _ _ (lpn_l hn2)
            · replace h := if_f c h
              obtain ⟨hc15, h⟩ := ck_some h
              refine w_sw k30 8 (Z := (sI Y10 22 l2 (ix l4) (gI Y10.1 22 l2 (ix (l4 - (nI 1)))))) (pc' := 51) (ls' := [(0, aR 39 0), (1, aI l1), (2, aR 22 l2), (3, aI l3), (4, aI l4)]) (st' := []) (cs' := [vp_in (l4 - (nI 1)) 5, vp_in l4 5, allw 22 l2]) (fun _ => rfl) rfl (al2 (vin hc9) (al2 (vin hc15) (al1 rfl))) ?_
              replace h := wr_some h
              generalize (sI Y10 22 l2 (ix l4) (gI Y10.1 22 l2 (ix (l4 - (nI 1))))) = Y16 at h ⊢
              refine w_sg k30 2 (pc' := 21) (ls' := [(0, aR 39 0), (1, aI l1), (2, aR 22 l2), (3, aI l3), (4, aI (l4 + (-1 : Int32)))]) (st' := []) (cs' := []) (fun _ => rfl) al0 ?_
              refine w_ls [(0, aR 39 0), (1, aI l1), (2, aR 22 l2), (3, aI l3), (4, aI (l4 + (-1 : Int32)))] (lq_c rfl (lq_c rfl (lq_c rfl (lq_c rfl (lq_c rfl lq_n))))) ?_
              obtain rfl := Option.some.inj h
              exact ih6 _ _ (lpn_l hn5)
      refine w_sg k30 3 (pc' := 15) (ls' := [(0, aR 39 0), (1, aI l1), (2, aR 22 l2), (3, aI l3)]) (st' := [aI (gI Y.1 39 0 0), aI l3]) (cs' := []) (fun _ => rfl) al0 ?_
      refine w_icmp_ge k30 rfl (fun c => ?_) (fun c => ?_)
      · replace h := if_t c h
        obtain rfl := Option.some.inj h
        obtain rfl := lpn_r hn2
        exact w_return k30 ⟨rfl, rfl⟩
      · replace h := if_f c h
        refine w_sg k30 2 (pc' := 21) (ls' := [(0, aR 39 0), (1, aI l1), (2, aR 22 l2), (3, aI l3), (4, aI l3)]) (st' := []) (cs' := []) (fun _ => rfl) al0 ?_
        refine w_ls [(0, aR 39 0), (1, aI l1), (2, aR 22 l2), (3, aI l3), (4, aI l3)] (lq_c rfl (lq_c rfl (lq_c rfl (lq_c rfl (lq_c rfl lq_n))))) ?_
        exact L21_0 _ _ _ _ h
  refine w_sg k30 2 (pc' := 4) (ls' := [(0, aR 39 0), (1, aI a1), (2, aR 22 i2)]) (st' := [aI (gI Y.1 39 0 1)]) (cs' := []) (fun _ => rfl) al0 ?_
  refine w_if_ne k30 rfl (fun c => ?_) (fun c => ?_)
  · replace h := if_f c h
    refine w_sg k30 2 (pc' := 10) (ls' := [(0, aR 39 0), (1, aI a1), (2, aR 22 i2), (3, aI (nI 0))]) (st' := []) (cs' := []) (fun _ => rfl) al0 ?_
    refine w_ls [(0, aR 39 0), (1, aI a1), (2, aR 22 i2), (3, aI (nI 0))] (lq_c rfl (lq_c rfl (lq_c rfl (lq_c rfl lq_n)))) ?_
    exact L10_0 _ _ _ _ _ h
  · replace h := if_t c h
    obtain rfl := Option.some.inj h
    exact w_return k30 ⟨rfl, rfl⟩
set_option maxRecDepth 20000 in
set_option maxHeartbeats 4000000 in
/-- BallotBus$State.holdVote -/
theorem sn_88 (i0 : Nat) {Y : Sm} (v : Unit) (Z : Sm) (h : fn_88 i0 Y = some (v, Z)) : Mt 7 0 88 [aR 21 i0, aR 39 0] Y (Rt none Z) nX := by
  refine Mt_of [(0, aR 21 i0), (1, aR 39 0)] ?_
  generalize ho : (v, Z) = o at h
  have hv9 : v = o.1 := congrArg Prod.fst ho
  have hZ9 : Z = o.2 := congrArg Prod.snd ho
  clear ho
  subst hv9 hZ9
  unfold fn_88 at h
  refine w_sg k88 3 (pc' := 3) (ls' := [(0, aR 21 i0), (1, aR 39 0)]) (st' := [aI (-1 : Int32), aR 21 i0, aR 39 0]) (cs' := []) (fun _ => rfl) al0 ?_
  obtain ⟨_, Y1, hv2, h⟩ := bd_some h
  refine w_cV0 k88 (sn_25 _ _ _ _ hv2) rfl (st := []) rfl ?_ (fun _ _ q => q.elim)
  refine w_sg k88 5 (pc' := 15) (ls' := [(0, aR 21 i0), (1, aR 39 0)]) (st' := [aR 22 i0, aI (gI Y1.1 21 i0 2), aR 39 0]) (cs' := []) (fun _ => rfl) al0 ?_
  obtain ⟨_, Y3, hv4, h⟩ := bd_some h
  refine w_cV0 k88 (sn_30_39_22 _ _ _ _ hv4) rfl (st := []) rfl ?_ (fun _ _ q => q.elim)
  refine w_sw k88 3 (Z := (sI Y3 21 i0 5 (nI 0))) (pc' := 23) (ls' := [(0, aR 21 i0), (1, aR 39 0)]) (st' := []) (cs' := [allw 21 i0]) (fun _ => rfl) rfl (al1 rfl) ?_
  replace h := wr_some h
  generalize (sI Y3 21 i0 5 (nI 0)) = Y5 at h ⊢
  refine w_sw k88 6 (Z := (sI Y5 21 i0 6 ((gI Y5.1 21 i0 6) + (nI 1)))) (pc' := 33) (ls' := [(0, aR 21 i0), (1, aR 39 0)]) (st' := []) (cs' := [allw 21 i0]) (fun _ => rfl) rfl (al1 rfl) ?_
  replace h := wr_some h
  generalize (sI Y5 21 i0 6 ((gI Y5.1 21 i0 6) + (nI 1))) = Y6 at h ⊢
  obtain rfl := Option.some.inj h
  exact w_return k88 ⟨rfl, rfl⟩
set_option maxRecDepth 20000 in
set_option maxHeartbeats 4000000 in
/-- BallotBus$State.tick -/
theorem sn_86 (i0 : Nat) {Y : Sm} (v : Unit) (Z : Sm) (h : fn_86 i0 Y = some (v, Z)) : Mt 8 0 86 [aR 21 i0, aR 39 0] Y (Rt none Z) nX := by
  refine Mt_of [(0, aR 21 i0), (1, aR 39 0)] ?_
  generalize ho : (v, Z) = o at h
  have hv9 : v = o.1 := congrArg Prod.fst ho
  have hZ9 : Z = o.2 := congrArg Prod.snd ho
  clear ho
  subst hv9 hZ9
  unfold fn_86 at h
  have J48_0 : ∀ (l0 : Nat) (Y : Sm), fn_86_J48 l0 Y = some o → Wm 8 0 86 0 48 [(0, aR 21 l0)] [] Y (Rt none o.2) nX := by
    intro l0 Y h
    unfold fn_86_J48 at h
    refine w_sg k86 4 (pc' := 56) (ls' := [(0, aR 21 l0)]) (st' := [aI (-1 : Int32), aI (gI Y.1 12 (l0 + 3) 2)]) (cs' := []) (fun _ => rfl) al0 ?_
    refine w_icmp_ne k86 rfl (fun c => ?_) (fun c => ?_)
    · replace h := if_f c h
      refine w_sg k86 1 (pc' := 64) (ls' := [(0, aR 21 l0)]) (st' := [aR 21 l0]) (cs' := []) (fun _ => rfl) al0 ?_
      obtain ⟨_, Y4, hv5, h⟩ := bd_some h
      refine w_cV0 k86 (sn_91 _ _ _ hv5) rfl (st := []) rfl ?_ (fun _ _ q => q.elim)
      refine w_sw k86 6 (Z := (sI Y4 21 l0 1 ((gI Y4.1 21 l0 1) + (nI 1)))) (pc' := 77) (ls' := [(0, aR 21 l0)]) (st' := []) (cs' := [allw 21 l0]) (fun _ => rfl) rfl (al1 rfl) ?_
      replace h := wr_some h
      generalize (sI Y4 21 l0 1 ((gI Y4.1 21 l0 1) + (nI 1))) = Y6 at h ⊢
      obtain rfl := Option.some.inj h
      exact w_return k86 ⟨rfl, rfl⟩
    · replace h := if_t c h
      refine w_sg k86 1 (pc' := 60) (ls' := [(0, aR 21 l0)]) (st' := [aR 21 l0]) (cs' := []) (fun _ => rfl) al0 ?_
      obtain ⟨_, Y7, hv8, h⟩ := bd_some h
      refine w_cV0 k86 (sn_90 _ _ _ hv8) rfl (st := []) rfl ?_ (fun _ _ q => q.elim)
      refine w_sg k86 1 (pc' := 64) (ls' := [(0, aR 21 l0)]) (st' := [aR 21 l0]) (cs' := []) (fun _ => rfl) al0 ?_
      obtain ⟨_, Y9, hv10, h⟩ := bd_some h
      refine w_cV0 k86 (sn_91 _ _ _ hv10) rfl (st := []) rfl ?_ (fun _ _ q => q.elim)
      refine w_sw k86 6 (Z := (sI Y9 21 l0 1 ((gI Y9.1 21 l0 1) + (nI 1)))) (pc' := 77) (ls' := [(0, aR 21 l0)]) (st' := []) (cs' := [allw 21 l0]) (fun _ => rfl) rfl (al1 rfl) ?_
      replace h := wr_some h
      generalize (sI Y9 21 l0 1 ((gI Y9.1 21 l0 1) + (nI 1))) = Y11 at h ⊢
      obtain rfl := Option.some.inj h
      exact w_return k86 ⟨rfl, rfl⟩
  have J21_0 : ∀ (l0 : Nat) (Y : Sm), fn_86_J21 l0 Y = some o → Wm 8 0 86 0 21 [(0, aR 21 l0)] [] Y (Rt none o.2) nX := by
    intro l0 Y h
    unfold fn_86_J21 at h
    refine w_sg k86 2 (pc' := 25) (ls' := [(0, aR 21 l0)]) (st' := [aI (gI Y.1 21 l0 1)]) (cs' := []) (fun _ => rfl) al0 ?_
    refine w_if_eq k86 rfl (fun c => ?_) (fun c => ?_)
    · replace h := if_t c h
      refine w_ls [(0, aR 21 l0)] (lq_c rfl lq_n) ?_
      exact J48_0 _ _ h
    · replace h := if_f c h
      refine w_sg k86 6 (pc' := 38) (ls' := [(0, aR 21 l0)]) (st' := [aI (gI Y.1 11 (Y.2 (l0 + 3)) 0), aR 21 l0]) (cs' := [vp_in (nI 0) 5]) (fun _ => rfl) (al1 (vin rfl)) ?_
      obtain ⟨v14, Y12, hv13, h⟩ := bd_some h
      refine w_cV1 k86 (sn_87 _ _ _ _ hv13) rfl (st := []) rfl ?_ (fun _ _ q => q.elim)
      refine w_if_eq k86 rfl (fun c => ?_) (fun c => ?_)
      · replace h := if_t c h
        refine w_ls [(0, aR 21 l0)] (lq_c rfl lq_n) ?_
        exact J48_0 _ _ h
      · replace h := if_f c h
        refine w_sg k86 1 (pc' := 45) (ls' := [(0, aR 21 l0)]) (st' := [aR 21 l0]) (cs' := []) (fun _ => rfl) al0 ?_
        obtain ⟨_, Y15, hv16, h⟩ := bd_some h
        refine w_cV0 k86 (sn_89 _ _ _ hv16) rfl (st := []) rfl ?_ (fun _ _ q => q.elim)
        refine w_ls [(0, aR 21 l0)] (lq_c rfl lq_n) ?_
        exact J48_0 _ _ h
  refine w_sg k86 6 (pc' := 10) (ls' := [(0, aR 21 i0), (1, aR 39 0)]) (st' := [aI (gI Y.1 11 (Y.2 (i0 + 3)) 1), aR 21 i0]) (cs' := [vp_in (nI 1) 5]) (fun _ => rfl) (al1 (vin rfl)) ?_
  obtain ⟨v3, Y1, hv2, h⟩ := bd_some h
  refine w_cV1 k86 (sn_87 _ _ _ _ hv2) rfl (st := []) rfl ?_ (fun _ _ q => q.elim)
  refine w_if_eq k86 rfl (fun c => ?_) (fun c => ?_)
  · replace h := if_t c h
    refine w_ls [(0, aR 21 i0)] (lq_c rfl lq_n) ?_
    exact J21_0 _ _ h
  · replace h := if_f c h
    refine w_sg k86 2 (pc' := 18) (ls' := [(0, aR 21 i0), (1, aR 39 0)]) (st' := [aR 39 0, aR 21 i0]) (cs' := []) (fun _ => rfl) al0 ?_
    obtain ⟨_, Y17, hv18, h⟩ := bd_some h
    refine w_cV0 k86 (sn_88 _ _ _ hv18) rfl (st := []) rfl ?_ (fun _ _ q => q.elim)
    refine w_ls [(0, aR 21 i0)] (lq_c rfl lq_n) ?_
    exact J21_0 _ _ h
set_option maxRecDepth 20000 in
set_option maxHeartbeats 4000000 in
/-- BallotBus$State.pass -/
theorem sn_85 (i0 : Nat) (a1 : Int32) {Y : Sm} (v : Unit) (Z : Sm) (h : fn_85 i0 a1 Y = some (v, Z)) : Mt 9 0 85 [aR 21 i0, aI a1, aR 39 0] Y (Rt none Z) nX := by
  refine Mt_of [(0, aR 21 i0), (1, aI a1), (2, aR 39 0)] ?_
  generalize ho : (v, Z) = o at h
  have hv9 : v = o.1 := congrArg Prod.fst ho
  have hZ9 : Z = o.2 := congrArg Prod.snd ho
  clear ho
  subst hv9 hZ9
  unfold fn_85 at h
  have L2_0 : ∀ (l0 : Nat) (l1 : Int32) (n : Nat) (l3 : Int32) (Y : Sm), lp (fun s => fn_85_L2 l0 l1 s.1 s.2) n (l3, Y) = some o → Wm 9 0 85 0 2 [(0, aR 21 l0), (1, aI l1), (2, aR 39 0), (3, aI l3)] [] Y (Rt none o.2) nX := by
    intro l0 l1 n
    induction n with
    | zero => intro l3 Y h; cases h
    | succ n ih3 =>
      intro l3 Y h
      obtain ⟨q1, h, hn2⟩ := lp_succ h
      replace h : fn_85_L2 l0 l1 l3 Y = some q1 := h
      unfold fn_85_L2 at h
      refine w_sg k85 2 (pc' := 4) (ls' := [(0, aR 21 l0), (1, aI l1), (2, aR 39 0), (3, aI l3)]) (st' := [aI l1, aI l3]) (cs' := []) (fun _ => rfl) al0 ?_
      refine w_icmp_ge k85 rfl (fun c => ?_) (fun c => ?_)
      · replace h := if_t c h
        obtain rfl := Option.some.inj h
        obtain rfl := lpn_r hn2
        exact w_return k85 ⟨rfl, rfl⟩
      · replace h := if_f c h
        refine w_sg k85 2 (pc' := 9) (ls' := [(0, aR 21 l0), (1, aI l1), (2, aR 39 0), (3, aI l3)]) (st' := [aR 39 0, aR 21 l0]) (cs' := []) (fun _ => rfl) al0 ?_
        obtain ⟨_, Y4, hv5, h⟩ := bd_some h
        refine w_cV0 k85 (sn_86 _ _ _ hv5) rfl (st := []) rfl ?_ (fun _ _ q => q.elim)
        refine w_sg k85 2 (pc' := 2) (ls' := [(0, aR 21 l0), (1, aI l1), (2, aR 39 0), (3, aI (l3 + (nI 1)))]) (st' := []) (cs' := []) (fun _ => rfl) al0 ?_
        refine w_ls [(0, aR 21 l0), (1, aI l1), (2, aR 39 0), (3, aI (l3 + (nI 1)))] (lq_c rfl (lq_c rfl (lq_c rfl (lq_c rfl lq_n)))) ?_
        obtain rfl := Option.some.inj h
        exact ih3 _ _ (lpn_l hn2)
  refine w_sg k85 2 (pc' := 2) (ls' := [(0, aR 21 i0), (1, aI a1), (2, aR 39 0), (3, aI (nI 0))]) (st' := []) (cs' := []) (fun _ => rfl) al0 ?_
  refine w_ls [(0, aR 21 i0), (1, aI a1), (2, aR 39 0), (3, aI (nI 0))] (lq_c rfl (lq_c rfl (lq_c rfl (lq_c rfl lq_n)))) ?_
  exact L2_0 _ _ _ _ _ h
set_option maxRecDepth 20000 in
set_option maxHeartbeats 4000000 in
/-- BallotBus.run -/
theorem sn_134 (a1 : Int32) {Y : Sm} (v : (Int32 ⊕ Nat)) (Z : Sm) (h : fn_134 a1 Y = some (v, Z)) : Mt 10 1 134 [aR 0 0, aI a1] Y (Pz (fun v => some (aI v)) v Z) (Ez v Z) := by
  refine Mt_of [(0, aR 0 0), (1, aI a1)] ?_
  generalize ho : (v, Z) = o at h
  have hv9 : v = o.1 := congrArg Prod.fst ho
  have hZ9 : Z = o.2 := congrArg Prod.snd ho
  clear ho
  subst hv9 hZ9
  unfold fn_134 at h
  refine w_sg k134 3 (pc' := 5) (ls' := [(0, aR 0 0), (1, aI a1)]) (st' := [aI (nI 500), aI a1, aR 0 0]) (cs' := []) (fun _ => rfl) al0 ?_
  obtain ⟨o8, Y1, hv2, ⟨_, ho9, h⟩ | ⟨x7, ho9, h⟩⟩ := bx_some h
  · subst ho9
    refine w_cV0 k134 (sn_157 _ _ _ _ hv2) rfl (st := []) rfl ?_ (fun _ _ q => q.elim)
    refine w_sg k134 4 (pc' := 16) (ls' := [(0, aR 0 0), (1, aI a1)]) (st' := [aR 21 0, aR 37 0]) (cs' := []) (fun _ => rfl) al0 ?_
    obtain ⟨_, Y3, hv4, h⟩ := bd_some h
    refine w_cV0 k134 (sn_14 _ _ _ hv4) rfl (st := []) rfl ?_ (fun _ _ q => q.elim)
    refine w_sg k134 9 (pc' := 36) (ls' := [(0, aR 0 0), (1, aI a1), (2, aI (gI Y3.1 21 0 8))]) (st' := [aR 39 0, aI a1, aR 21 0]) (cs' := []) (fun _ => rfl) al0 ?_
    obtain ⟨_, Y5, hv6, h⟩ := bd_some h
    refine w_cV0 k134 (sn_85 _ _ _ _ hv6) rfl (st := []) rfl ?_ (fun _ _ q => q.elim)
    refine w_sg k134 5 (pc' := 48) (ls' := [(0, aR 0 0), (1, aI a1), (2, aI (gI Y3.1 21 0 8))]) (st' := [aI ((gI Y5.1 21 0 8) - (gI Y3.1 21 0 8))]) (cs' := []) (fun _ => rfl) al0 ?_
    obtain rfl := Option.some.inj h
    exact w_ireturn k134 Pz_l
  · subst ho9
    obtain rfl := Option.some.inj h
    exact w_xcallV k134 (sn_157 _ _ _ _ hv2) rfl (st := []) rfl Ez_r
set_option maxRecDepth 20000 in
set_option maxHeartbeats 4000000 in
/-- BallotBus$State.take -/
theorem sn_81 (i0 : Nat) (a1 : Int32) (a2 : Int32) (a3 : Int32) {Y : Sm} (v : Int32) (Z : Sm) (h : fn_81 i0 a1 a2 a3 Y = some (v, Z)) : Mt 5 0 81 [aR 21 i0, aI a1, aI a2, aI a3] Y (Rt (some (aI v)) Z) nX := by
  refine Mt_of [(0, aR 21 i0), (1, aI a1), (2, aI a2), (3, aI a3)] ?_
  generalize ho : (v, Z) = o at h
  have hv9 : v = o.1 := congrArg Prod.fst ho
  have hZ9 : Z = o.2 := congrArg Prod.snd ho
  clear ho
  subst hv9 hZ9
  unfold fn_81 at h
  refine w_sg k81 11 (pc' := 19) (ls' := [(0, aR 21 i0), (1, aI a1), (2, aI a2), (3, aI a3), (4, aI (gI Y.1 21 i0 7))]) (st' := [aI (gI Y.1 21 i0 1), aI a3, aI a2, aI a1, aI (gI Y.1 21 i0 7), aR 12 (i0 + 3)]) (cs' := []) (fun _ => rfl) al0 ?_
  obtain ⟨_, Y1, hv2, h⟩ := bd_some h
  refine w_cV0 k81 (sn_36 _ _ _ _ _ _ _ _ hv2) rfl (st := []) rfl ?_ (fun _ _ q => q.elim)
  refine w_sw k81 6 (Z := (sI Y1 21 i0 7 ((gI Y1.1 21 i0 7) + (nI 1)))) (pc' := 32) (ls' := [(0, aR 21 i0), (1, aI a1), (2, aI a2), (3, aI a3), (4, aI (gI Y.1 21 i0 7))]) (st' := []) (cs' := [allw 21 i0]) (fun _ => rfl) rfl (al1 rfl) ?_
  replace h := wr_some h
  generalize (sI Y1 21 i0 7 ((gI Y1.1 21 i0 7) + (nI 1))) = Y3 at h ⊢
  refine w_sg k81 1 (pc' := 34) (ls' := [(0, aR 21 i0), (1, aI a1), (2, aI a2), (3, aI a3), (4, aI (gI Y.1 21 i0 7))]) (st' := [aI (gI Y.1 21 i0 7)]) (cs' := []) (fun _ => rfl) al0 ?_
  obtain rfl := Option.some.inj h
  exact w_ireturn k81 ⟨rfl, rfl⟩
