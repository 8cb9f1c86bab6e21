/-! the code of the methods does what their functions say (printed by wip/whole/gen20.py) -/
set_option maxRecDepth 20000 in
set_option maxHeartbeats 4000000 in
/-- BallotBusModel.tallies -/
theorem sn_199 (a1 : Int32) {Y : Sm} (v : Unit) (Z : Sm) (h : fn_199 a1 Y = some (v, Z)) : Mt 10 0 199 [aR 48 0, aI a1] Y (Rt none Z) nX := by
  refine Mt_of [(0, aR 48 0), (1, aI a1)] ?_
  generalize ho : (v, Z) = o at h
  have hv9 : v = o.1 := congrArg Prod.fst ho
  have hZ9 : Z = o.2 := congrArg Prod.snd ho
  clear ho
  subst hv9 hZ9
  unfold fn_199 at h
  have L7_0 : ∀ (l1 : Int32) (l2 : Int32) (n : Nat) (l3 : Int32) (Y : Sm), lp (fun s => fn_199_L7 l1 l2 s.1 s.2) n (l3, Y) = some o → Wm 10 0 199 0 7 [(0, aR 48 0), (1, aI l1), (2, aI l2), (3, aI l3)] [] Y (Rt none o.2) nX := by
    intro l1 l2 n
    induction n with
    | zero => intro l3 Y h; cases h
    | succ n ih6 =>
      intro l3 Y h
      obtain ⟨q4, h, hn5⟩ := lp_succ h
      replace h : fn_199_L7 l1 l2 l3 Y = some q4 := h
      unfold fn_199_L7 at h
      have L43_0 : ∀ (l3 : Int32) (n : Nat) (l4 : Int32) (l5 : Int32) (Y : Sm), lp (fun s => fn_199_L43_d1 l1 l2 l3 s.1 s.2.1 s.2.2) n (l4, l5, Y) = some q4 → Wm 10 0 199 0 43 [(0, aR 48 0), (1, aI l1), (2, aI l2), (3, aI l3), (4, aI l4), (5, aI l5)] [] Y (Rt none o.2) nX := by
        intro l3 n
        induction n with
        | zero => intro l4 l5 Y h; cases h
        | succ n ih9 =>
          intro l4 l5 Y h
          obtain ⟨q7, h, hn8⟩ := lp_succ h
          replace h : fn_199_L43_d1 l1 l2 l3 l4 l5 Y = some q7 := h
          unfold fn_199_L43_d1 at h
          refine w_sg k199 3 (pc' := 49) (ls' := [(0, aR 48 0), (1, aI l1), (2, aI l2), (3, aI l3), (4, aI l4), (5, aI l5)]) (st' := [aI (gI Y.1 48 0 1), aI l5]) (cs' := []) (fun _ => rfl) al0 ?_
          refine w_icmp_ge k199 rfl (fun c => ?_) (fun c => ?_)
          · replace h := if_t c h
            obtain ⟨hc10, h⟩ := ck_some h
            refine w_sw k199 5 (Z := (sI Y 58 0 (ix l4) l3)) (pc' := 89) (ls' := [(0, aR 48 0), (1, aI l1), (2, aI l2), (3, aI l3), (4, aI l4), (5, aI l5)]) (st' := []) (cs' := [vp_in l4 5, allw 58 0]) (fun _ => rfl) rfl (al2 (vin hc10) (al1 rfl)) ?_
            replace h := wr_some h
            generalize (sI Y 58 0 (ix l4) l3) = Y11 at h ⊢
            refine w_sg k199 1 (pc' := 92) (ls' := [(0, aR 48 0), (1, aI l1), (2, aI l2), (3, aI (l3 + (nI 1))), (4, aI l4), (5, aI l5)]) (st' := []) (cs' := []) (fun _ => rfl) al0 ?_
            refine w_sg k199 1 (pc' := 7) (ls' := [(0, aR 48 0), (1, aI l1), (2, aI l2), (3, aI (l3 + (nI 1))), (4, aI l4), (5, aI l5)]) (st' := []) (cs' := []) (fun _ => rfl) al0 ?_
            refine w_ls [(0, aR 48 0), (1, aI l1), (2, aI l2), (3, aI (l3 + (nI 1)))] (lq_c rfl (lq_c rfl (lq_c rfl (lq_c rfl lq_n)))) ?_
            obtain rfl := Option.some.inj h
            obtain rfl := lpn_r hn8
            exact ih6 _ _ (lpn_l hn5)
          · replace h := if_f c h
            refine w_sg k199 2 (pc' := 55) (ls' := [(0, aR 48 0), (1, aI l1), (2, aI l2), (3, aI l3), (4, aI l4), (5, aI l5)]) (st' := [aI l3, aI l5]) (cs' := []) (fun _ => rfl) al0 ?_
            refine w_icmp_eq k199 rfl (fun c => ?_) (fun c => ?_)
            · replace h := if_t c h
              refine w_sg k199 1 (pc' := 78) (ls' := [(0, aR 48 0), (1, aI l1), (2, aI l2), (3, aI l3), (4, aI l4), (5, aI (l5 + (nI 1)))]) (st' := []) (cs' := []) (fun _ => rfl) al0 ?_
              refine w_sg k199 1 (pc' := 43) (ls' := [(0, aR 48 0), (1, aI l1), (2, aI l2), (3, aI l3), (4, aI l4), (5, aI (l5 + (nI 1)))]) (st' := []) (cs' := []) (fun _ => rfl) al0 ?_
              refine w_ls [(0, aR 48 0), (1, aI l1), (2, aI l2), (3, aI l3), (4, aI l4), (5, aI (l5 + (nI 1)))] (lq_c rfl (lq_c rfl (lq_c rfl (lq_c rfl (lq_c rfl (lq_c rfl lq_n)))))) ?_
              obtain rfl := Option.some.inj h
              exact ih9 _ _ _ (lpn_l hn8)
            · replace h := if_f c h
              refine w_sg k199 4 (pc' := 63) (ls' := [(0, aR 48 0), (1, aI l1), (2, aI l2), (3, aI l3), (4, aI l4), (5, aI l5)]) (st' := [aI l3, aI l5, aI l1, aR 48 0]) (cs' := []) (fun _ => rfl) al0 ?_
              obtain ⟨v14, Y12, hv13, h⟩ := bd_some h
              refine w_cV1 k199 (sn_198 _ _ _ _ _ hv13) rfl (st := []) rfl ?_ (fun _ _ q => q.elim)
              refine w_if_eq k199 rfl (fun c => ?_) (fun c => ?_)
              · replace h := if_t c h
                refine w_sg k199 1 (pc' := 78) (ls' := [(0, aR 48 0), (1, aI l1), (2, aI l2), (3, aI l3), (4, aI l4), (5, aI (l5 + (nI 1)))]) (st' := []) (cs' := []) (fun _ => rfl) al0 ?_
                refine w_sg k199 1 (pc' := 43) (ls' := [(0, aR 48 0), (1, aI l1), (2, aI l2), (3, aI l3), (4, aI l4), (5, aI (l5 + (nI 1)))]) (st' := []) (cs' := []) (fun _ => rfl) al0 ?_
                refine w_ls [(0, aR 48 0), (1, aI l1), (2, aI l2), (3, aI l3), (4, aI l4), (5, aI (l5 + (nI 1)))] (lq_c rfl (lq_c rfl (lq_c rfl (lq_c rfl (lq_c rfl (lq_c rfl lq_n)))))) ?_
                obtain rfl := Option.some.inj h
                exact ih9 _ _ _ (lpn_l hn8)
              · replace h := if_f c h
                refine w_sg k199 4 (pc' := 75) (ls' := [(0, aR 48 0), (1, aI l1), (2, aI l2), (3, aI l3), (4, aI (l4 + (nI 1))), (5, aI l5)]) (st' := []) (cs' := []) (fun _ => rfl) al0 ?_
                refine w_sg k199 1 (pc' := 78) (ls' := [(0, aR 48 0), (1, aI l1), (2, aI l2), (3, aI l3), (4, aI (l4 + (nI 1))), (5, aI (l5 + (nI 1)))]) (st' := []) (cs' := []) (fun _ => rfl) al0 ?_
                refine w_sg k199 1 (pc' := 43) (ls' := [(0, aR 48 0), (1, aI l1), (2, aI l2), (3, aI l3), (4, aI (l4 + (nI 1))), (5, aI (l5 + (nI 1)))]) (st' := []) (cs' := []) (fun _ => rfl) al0 ?_
                refine w_ls [(0, aR 48 0), (1, aI l1), (2, aI l2), (3, aI l3), (4, aI (l4 + (nI 1))), (5, aI (l5 + (nI 1)))] (lq_c rfl (lq_c rfl (lq_c rfl (lq_c rfl (lq_c rfl (lq_c rfl lq_n)))))) ?_
                obtain rfl := Option.some.inj h
                exact ih9 _ _ _ (lpn_l hn8)
      refine w_sg k199 3 (pc' := 12) (ls' := [(0, aR 48 0), (1, aI l1), (2, aI l2), (3, aI l3)]) (st' := [aI (gI Y.1 48 0 1), aI l3]) (cs' := []) (fun _ => rfl) al0 ?_
      refine w_icmp_ge k199 rfl (fun c => ?_) (fun c => ?_)
      · replace h := if_t c h
        obtain rfl := Option.some.inj h
        obtain rfl := lpn_r hn5
        exact w_return k199 ⟨rfl, rfl⟩
      · replace h := if_f c h
        refine w_sg k199 1 (pc' := 16) (ls' := [(0, aR 48 0), (1, aI l1), (2, aI l2), (3, aI l3)]) (st' := [aI l2]) (cs' := []) (fun _ => rfl) al0 ?_
        refine w_if_ne k199 rfl (fun c => ?_) (fun c => ?_)
        · replace h := if_f c h
          refine w_sg k199 2 (pc' := 40) (ls' := [(0, aR 48 0), (1, aI l1), (2, aI l2), (3, aI l3), (4, aI (nI 0))]) (st' := []) (cs' := []) (fun _ => rfl) al0 ?_
          refine w_sg k199 2 (pc' := 43) (ls' := [(0, aR 48 0), (1, aI l1), (2, aI l2), (3, aI l3), (4, aI (nI 0)), (5, aI (nI 0))]) (st' := []) (cs' := []) (fun _ => rfl) al0 ?_
          refine w_ls [(0, aR 48 0), (1, aI l1), (2, aI l2), (3, aI l3), (4, aI (nI 0)), (5, aI (nI 0))] (lq_c rfl (lq_c rfl (lq_c rfl (lq_c rfl (lq_c rfl (lq_c rfl lq_n)))))) ?_
          exact L43_0 _ _ _ _ _ h
        · replace h := if_t c h
          refine w_sg k199 8 (pc' := 32) (ls' := [(0, aR 48 0), (1, aI l1), (2, aI l2), (3, aI l3)]) (st' := [aI ((nI 10) + l3), aR 52 0, aI l3, aR 58 0]) (cs' := []) (fun _ => rfl) al0 ?_
          obtain ⟨hc15, h⟩ := ck_some h
          obtain ⟨hc16, h⟩ := ck_some h
          refine w_sw k199 2 (Z := (sI Y 58 0 (ix l3) (gI Y.1 52 0 (ix ((nI 10) + l3))))) (pc' := 34) (ls' := [(0, aR 48 0), (1, aI l1), (2, aI l2), (3, aI l3)]) (st' := []) (cs' := [vp_in ((nI 10) + l3) 718, vp_in l3 5, allw 58 0]) (fun _ => rfl) rfl (al2 (vin hc15) (al2 (vin hc16) (al1 rfl))) ?_
          replace h := wr_some h
          generalize (sI Y 58 0 (ix l3) (gI Y.1 52 0 (ix ((nI 10) + l3)))) = Y17 at h ⊢
          refine w_sg k199 2 (pc' := 92) (ls' := [(0, aR 48 0), (1, aI l1), (2, aI l2), (3, aI (l3 + (nI 1)))]) (st' := []) (cs' := []) (fun _ => rfl) al0 ?_
          refine w_sg k199 1 (pc' := 7) (ls' := [(0, aR 48 0), (1, aI l1), (2, aI l2), (3, aI (l3 + (nI 1)))]) (st' := []) (cs' := []) (fun _ => rfl) al0 ?_
          refine w_ls [(0, aR 48 0), (1, aI l1), (2, aI l2), (3, aI (l3 + (nI 1)))] (lq_c rfl (lq_c rfl (lq_c rfl (lq_c rfl lq_n)))) ?_
          obtain rfl := Option.some.inj h
          exact ih6 _ _ (lpn_l hn5)
  refine w_sg k199 1 (pc' := 1) (ls' := [(0, aR 48 0), (1, aI a1)]) (st' := [aR 48 0]) (cs' := []) (fun _ => rfl) al0 ?_
  obtain ⟨v3, Y1, hv2, h⟩ := bd_some h
  refine w_cV1 k199 (sn_190  _ _ hv2) rfl (st := []) rfl ?_ (fun _ _ q => q.elim)
  refine w_sg k199 1 (pc' := 5) (ls' := [(0, aR 48 0), (1, aI a1), (2, aI v3)]) (st' := []) (cs' := []) (fun _ => rfl) al0 ?_
  refine w_sg k199 2 (pc' := 7) (ls' := [(0, aR 48 0), (1, aI a1), (2, aI v3), (3, aI (nI 0))]) (st' := []) (cs' := []) (fun _ => rfl) al0 ?_
  refine w_ls [(0, aR 48 0), (1, aI a1), (2, aI v3), (3, aI (nI 0))] (lq_c rfl (lq_c rfl (lq_c rfl (lq_c rfl lq_n)))) ?_
  exact L7_0 _ _ _ _ _ h
set_option maxRecDepth 20000 in
set_option maxHeartbeats 4000000 in
/-- BallotBusModel.ordersAnew -/
theorem sn_200 {Y : Sm} (v : Unit) (Z : Sm) (h : fn_200 Y = some (v, Z)) : Mt 11 0 200 [aR 48 0] Y (Rt none Z) nX := by
  refine Mt_of [(0, aR 48 0)] ?_
  generalize ho : (v, Z) = o at h
  have hv9 : v = o.1 := congrArg Prod.fst ho
  have hZ9 : Z = o.2 := congrArg Prod.snd ho
  clear ho
  subst hv9 hZ9
  unfold fn_200 at h
  have L12_0 : ∀ (n : Nat) (l1 : Int32) (Y : Sm) (e6 : (Sm) ⊕ (Unit × Sm)), lp (fun s => fn_200_L12 s.1 s.2) n (l1, Y) = some e6 → (∀ s9 : (Sm), e6 = .inl s9 → Wm 11 0 200 0 41 [(0, aR 48 0)] [] s9 (Rt none o.2) nX) → (∀ r, e6 = .inr r → r = o) → Wm 11 0 200 0 12 [(0, aR 48 0), (1, aI l1)] [] Y (Rt none o.2) nX := by
    intro n
    induction n with
    | zero => intro l1 Y e6 h; cases h
    | succ n ih5 =>
      intro l1 Y e6 h kE7 kR8
      obtain ⟨q3, h, hn4⟩ := lp_succ h
      replace h : fn_200_L12 l1 Y = some q3 := h
      unfold fn_200_L12 at h
      refine w_sg k200 3 (pc' := 17) (ls' := [(0, aR 48 0), (1, aI l1)]) (st' := [aI (gI Y.1 48 0 1), aI l1]) (cs' := []) (fun _ => rfl) al0 ?_
      refine w_icmp_ge k200 rfl (fun c => ?_) (fun c => ?_)
      · replace h := if_t c h
        refine w_ls [(0, aR 48 0)] (lq_c rfl lq_n) ?_
        obtain rfl := Option.some.inj h
        obtain rfl := lpn_r hn4
        exact kE7 (Y) rfl
      · replace h := if_f c h
        refine w_sg k200 8 (pc' := 33) (ls' := [(0, aR 48 0), (1, aI l1)]) (st' := [aI l1, aR 58 0, aI ((nI 10) + l1), aR 52 0]) (cs' := []) (fun _ => rfl) al0 ?_
        obtain ⟨hc9, h⟩ := ck_some h
        obtain ⟨hc10, h⟩ := ck_some h
        refine w_sw k200 2 (Z := (sI Y 52 0 (ix ((nI 10) + l1)) (gI Y.1 58 0 (ix l1)))) (pc' := 35) (ls' := [(0, aR 48 0), (1, aI l1)]) (st' := []) (cs' := [vp_in l1 5, vp_in ((nI 10) + l1) 718, allw 52 0]) (fun _ => rfl) rfl (al2 (vin hc9) (al2 (vin hc10) (al1 rfl))) ?_
        replace h := wr_some h
        generalize (sI Y 52 0 (ix ((nI 10) + l1)) (gI Y.1 58 0 (ix l1))) = Y11 at h ⊢
        refine w_sg k200 1 (pc' := 38) (ls' := [(0, aR 48 0), (1, aI (l1 + (nI 1)))]) (st' := []) (cs' := []) (fun _ => rfl) al0 ?_
        refine w_sg k200 1 (pc' := 12) (ls' := [(0, aR 48 0), (1, aI (l1 + (nI 1)))]) (st' := []) (cs' := []) (fun _ => rfl) al0 ?_
        refine w_ls [(0, aR 48 0), (1, aI (l1 + (nI 1)))] (lq_c rfl (lq_c rfl lq_n)) ?_
        obtain rfl := Option.some.inj h
        exact ih5 _ _ _ (lpn_l hn4) kE7 kR8
  have J41_0 : ∀ (Y : Sm), fn_200_J41 Y = some o → Wm 11 0 200 0 41 [(0, aR 48 0)] [] Y (Rt none o.2) nX := by
    intro Y h
    unfold fn_200_J41 at h
    refine w_sw k200 5 (Z := (sI Y 52 0 4 (nI 0))) (pc' := 48) (ls' := [(0, aR 48 0)]) (st' := []) (cs' := [vp_in (nI 4) 718, allw 52 0]) (fun _ => rfl) rfl (al2 (vin rfl) (al1 rfl)) ?_
    replace h := wr_some h
    generalize (sI Y 52 0 4 (nI 0)) = Y12 at h ⊢
    refine w_sg k200 8 (pc' := 60) (ls' := [(0, aR 48 0)]) (st' := [aI (nI 1), aI (gI Y12.1 52 0 5), aI (nI 5), aR 52 0]) (cs' := [vp_in (nI 5) 718]) (fun _ => rfl) (al1 (vin rfl)) ?_
    refine w_sw k200 2 (Z := (sI Y12 52 0 5 ((gI Y12.1 52 0 5) + (nI 1)))) (pc' := 62) (ls' := [(0, aR 48 0)]) (st' := []) (cs' := [vp_in (nI 5) 718, allw 52 0]) (fun _ => rfl) rfl (al2 (vin rfl) (al1 rfl)) ?_
    replace h := wr_some h
    generalize (sI Y12 52 0 5 ((gI Y12.1 52 0 5) + (nI 1))) = Y13 at h ⊢
    obtain rfl := Option.some.inj h
    exact w_return k200 ⟨rfl, rfl⟩
  refine w_sg k200 5 (pc' := 7) (ls' := [(0, aR 48 0)]) (st' := [aI (gI Y.1 52 0 1), aR 48 0]) (cs' := [vp_in (nI 1) 718]) (fun _ => rfl) (al1 (vin rfl)) ?_
  obtain ⟨_, Y1, hv2, h⟩ := bd_some h
  refine w_cV0 k200 (sn_199 _ _ _ hv2) rfl (st := []) rfl ?_ (fun _ _ q => q.elim)
  refine w_sg k200 2 (pc' := 12) (ls' := [(0, aR 48 0), (1, aI (nI 0))]) (st' := []) (cs' := []) (fun _ => rfl) al0 ?_
  obtain ⟨e16, hl14, hx15⟩ := exd_some h
  refine w_ls [(0, aR 48 0), (1, aI (nI 0))] (lq_c rfl (lq_c rfl lq_n)) ?_
  refine L12_0 _ _ _ e16 hl14 (fun s9 hs9 => ?_) (fun r9 hr9 => ?_)
  · subst hs9
    replace h : fn_200_J41 s9 = some o := hx15
    refine w_ls [(0, aR 48 0)] (lq_c rfl lq_n) ?_
    exact J41_0 _ h
  · subst hr9
    exact hx15
set_option maxRecDepth 20000 in
set_option maxHeartbeats 4000000 in
/-- BallotBusModel.ticks -/
theorem sn_205 {Y : Sm} (v : Unit) (Z : Sm) (h : fn_205 Y = some (v, Z)) : Mt 12 0 205 [aR 48 0] Y (Rt none Z) nX := by
  refine Mt_of [(0, aR 48 0)] ?_
  generalize ho : (v, Z) = o at h
  have hv9 : v = o.1 := congrArg Prod.fst ho
  have hZ9 : Z = o.2 := congrArg Prod.snd ho
  clear ho
  subst hv9 hZ9
  unfold fn_205 at h
  have J52_0 : ∀ (l1 : Int32) (Y : Sm), fn_205_J52 l1 Y = some o → Wm 12 0 205 0 52 [(0, aR 48 0), (1, aI l1)] [] Y (Rt none o.2) nX := by
    intro l1 Y h
    unfold fn_205_J52 at h
    refine w_sg k205 5 (pc' := 60) (ls' := [(0, aR 48 0), (1, aI l1)]) (st' := [aI (-1 : Int32), aI (gI Y.1 52 0 8)]) (cs' := [vp_in (nI 8) 718]) (fun _ => rfl) (al1 (vin rfl)) ?_
    refine w_icmp_eq k205 rfl (fun c => ?_) (fun c => ?_)
    · replace h := if_t c h
      refine w_sw k205 7 (Z := (sI Y 52 0 0 (l1 + (nI 1)))) (pc' := 76) (ls' := [(0, aR 48 0), (1, aI l1)]) (st' := []) (cs' := [vp_in (nI 0) 718, allw 52 0]) (fun _ => rfl) rfl (al2 (vin rfl) (al1 rfl)) ?_
      replace h := wr_some h
      generalize (sI Y 52 0 0 (l1 + (nI 1))) = Y2 at h ⊢
      obtain rfl := Option.some.inj h
      exact w_return k205 ⟨rfl, rfl⟩
    · replace h := if_f c h
      refine w_sg k205 1 (pc' := 64) (ls' := [(0, aR 48 0), (1, aI l1)]) (st' := [aR 48 0]) (cs' := []) (fun _ => rfl) al0 ?_
      obtain ⟨_, Y3, hv4, h⟩ := bd_some h
      refine w_cV0 k205 (sn_203  _ _ hv4) rfl (st := []) rfl ?_ (fun _ _ q => q.elim)
      refine w_sw k205 7 (Z := (sI Y3 52 0 0 (l1 + (nI 1)))) (pc' := 76) (ls' := [(0, aR 48 0), (1, aI l1)]) (st' := []) (cs' := [vp_in (nI 0) 718, allw 52 0]) (fun _ => rfl) rfl (al2 (vin rfl) (al1 rfl)) ?_
      replace h := wr_some h
      generalize (sI Y3 52 0 0 (l1 + (nI 1))) = Y5 at h ⊢
      obtain rfl := Option.some.inj h
      exact w_return k205 ⟨rfl, rfl⟩
  have J37_0 : ∀ (l1 : Int32) (Y : Sm), fn_205_J37 l1 Y = some o → Wm 12 0 205 0 37 [(0, aR 48 0), (1, aI l1)] [] Y (Rt none o.2) nX := by
    intro l1 Y h
    unfold fn_205_J37 at h
    refine w_sg k205 5 (pc' := 45) (ls' := [(0, aR 48 0), (1, aI l1)]) (st' := [aI (-1 : Int32), aI (gI Y.1 52 0 8)]) (cs' := [vp_in (nI 8) 718]) (fun _ => rfl) (al1 (vin rfl)) ?_
    refine w_icmp_ne k205 rfl (fun c => ?_) (fun c => ?_)
    · replace h := if_f c h
      refine w_ls [(0, aR 48 0), (1, aI l1)] (lq_c rfl (lq_c rfl lq_n)) ?_
      exact J52_0 _ _ h
    · replace h := if_t c h
      refine w_sg k205 1 (pc' := 49) (ls' := [(0, aR 48 0), (1, aI l1)]) (st' := [aR 48 0]) (cs' := []) (fun _ => rfl) al0 ?_
      obtain ⟨_, Y6, hv7, h⟩ := bd_some h
      refine w_cV0 k205 (sn_202  _ _ hv7) rfl (st := []) rfl ?_ (fun _ _ q => q.elim)
      refine w_ls [(0, aR 48 0), (1, aI l1)] (lq_c rfl (lq_c rfl lq_n)) ?_
      exact J52_0 _ _ h
  have J20_0 : ∀ (l1 : Int32) (Y : Sm), fn_205_J20 l1 Y = some o → Wm 12 0 205 0 20 [(0, aR 48 0), (1, aI l1)] [] Y (Rt none o.2) nX := by
    intro l1 Y h
    unfold fn_205_J20 at h
    refine w_sg k205 1 (pc' := 21) (ls' := [(0, aR 48 0), (1, aI l1)]) (st' := [aI l1]) (cs' := []) (fun _ => rfl) al0 ?_
    refine w_if_le k205 rfl (fun c => ?_) (fun c => ?_)
    · replace h := if_t c h
      refine w_ls [(0, aR 48 0), (1, aI l1)] (lq_c rfl (lq_c rfl lq_n)) ?_
      exact J37_0 _ _ h
    · replace h := if_f c h
      obtain ⟨hc8, h⟩ := ck_some h
      refine w_sg k205 4 (pc' := 30) (ls' := [(0, aR 48 0), (1, aI l1)]) (st' := [aI (l1 - l1 / (gI Y.1 48 0 3) * (gI Y.1 48 0 3))]) (cs' := [¬ (gI Y.1 48 0 3) = 0]) (fun _ => rfl) (al1 (nz_of hc8)) ?_
      refine w_if_ne k205 rfl (fun c => ?_) (fun c => ?_)
      · replace h := if_f c h
        refine w_ls [(0, aR 48 0), (1, aI l1)] (lq_c rfl (lq_c rfl lq_n)) ?_
        exact J37_0 _ _ h
      · replace h := if_t c h
        refine w_sg k205 1 (pc' := 34) (ls' := [(0, aR 48 0), (1, aI l1)]) (st' := [aR 48 0]) (cs' := []) (fun _ => rfl) al0 ?_
        obtain ⟨_, Y9, hv10, h⟩ := bd_some h
        refine w_cV0 k205 (sn_201  _ _ hv10) rfl (st := []) rfl ?_ (fun _ _ q => q.elim)
        refine w_ls [(0, aR 48 0), (1, aI l1)] (lq_c rfl (lq_c rfl lq_n)) ?_
        exact J37_0 _ _ h
  refine w_sg k205 5 (pc' := 7) (ls' := [(0, aR 48 0), (1, aI (gI Y.1 52 0 0))]) (st' := []) (cs' := [vp_in (nI 0) 718]) (fun _ => rfl) (al1 (vin rfl)) ?_
  obtain ⟨hc1, h⟩ := ck_some h
  refine w_sg k205 4 (pc' := 13) (ls' := [(0, aR 48 0), (1, aI (gI Y.1 52 0 0))]) (st' := [aI ((gI Y.1 52 0 0) - (gI Y.1 52 0 0) / (gI Y.1 48 0 4) * (gI Y.1 48 0 4))]) (cs' := [¬ (gI Y.1 48 0 4) = 0]) (fun _ => rfl) (al1 (nz_of hc1)) ?_
  refine w_if_ne k205 rfl (fun c => ?_) (fun c => ?_)
  · replace h := if_f c h
    refine w_ls [(0, aR 48 0), (1, aI (gI Y.1 52 0 0))] (lq_c rfl (lq_c rfl lq_n)) ?_
    exact J20_0 _ _ h
  · replace h := if_t c h
    refine w_sg k205 1 (pc' := 17) (ls' := [(0, aR 48 0), (1, aI (gI Y.1 52 0 0))]) (st' := [aR 48 0]) (cs' := []) (fun _ => rfl) al0 ?_
    obtain ⟨_, Y11, hv12, h⟩ := bd_some h
    refine w_cV0 k205 (sn_200  _ _ hv12) rfl (st := []) rfl ?_ (fun _ _ q => q.elim)
    refine w_ls [(0, aR 48 0), (1, aI (gI Y.1 52 0 0))] (lq_c rfl (lq_c rfl lq_n)) ?_
    exact J20_0 _ _ h
set_option maxRecDepth 20000 in
set_option maxHeartbeats 4000000 in
/-- BallotBusModel.goesOn -/
theorem sn_207 (a1 : Int32) (a2 : Int32) {Y : Sm} (v : Int32) (Z : Sm) (h : fn_207 a1 a2 Y = some (v, Z)) : Mt 13 0 207 [aR 48 0, aI a1, aI a2] Y (Rt (some (aI v)) Z) nX := by
  refine Mt_of [(0, aR 48 0), (1, aI a1), (2, aI a2)] ?_
  generalize ho : (v, Z) = o at h
  have hv9 : v = o.1 := congrArg Prod.fst ho
  have hZ9 : Z = o.2 := congrArg Prod.snd ho
  clear ho
  subst hv9 hZ9
  unfold fn_207 at h
  have L9_0 : ∀ (l1 : Int32) (l2 : Int32) (l3 : Int32) (n : Nat) (l4 : Int32) (Y : Sm) (e7 : (Sm) ⊕ (Int32 × Sm)), lp (fun s => fn_207_L9 l1 l2 l3 s.1 s.2) n (l4, Y) = some e7 → (∀ s9 : (Sm), e7 = .inl s9 → Wm 13 0 207 0 25 [(0, aR 48 0), (2, aI l2), (3, aI l3)] [] s9 (Rt (some (aI o.1)) o.2) nX) → (∀ r, e7 = .inr r → r = o) → Wm 13 0 207 0 9 [(0, aR 48 0), (1, aI l1), (2, aI l2), (3, aI l3), (4, aI l4)] [] Y (Rt (some (aI o.1)) o.2) nX := by
    intro l1 l2 l3 n
    induction n with
    | zero => intro l4 Y e7 h; cases h
    | succ n ih6 =>
      intro l4 Y e7 h kE8 kR9
      obtain ⟨q4, h, hn5⟩ := lp_succ h
      replace h : fn_207_L9 l1 l2 l3 l4 Y = some q4 := h
      unfold fn_207_L9 at h
      refine w_sg k207 2 (pc' := 12) (ls' := [(0, aR 48 0), (1, aI l1), (2, aI l2), (3, aI l3), (4, aI l4)]) (st' := [aI l1, aI l4]) (cs' := []) (fun _ => rfl) al0 ?_
      refine w_icmp_ge k207 rfl (fun c => ?_) (fun c => ?_)
      · replace h := if_t c h
        refine w_ls [(0, aR 48 0), (2, aI l2), (3, aI l3)] (lq_c rfl (lq_c rfl (lq_c rfl lq_n))) ?_
        obtain rfl := Option.some.inj h
        obtain rfl := lpn_r hn5
        exact kE8 (Y) rfl
      · replace h := if_f c h
        refine w_sg k207 1 (pc' := 16) (ls' := [(0, aR 48 0), (1, aI l1), (2, aI l2), (3, aI l3), (4, aI l4)]) (st' := [aR 48 0]) (cs' := []) (fun _ => rfl) al0 ?_
        obtain ⟨_, Y10, hv11, h⟩ := bd_some h
        refine w_cV0 k207 (sn_205  _ _ hv11) rfl (st := []) rfl ?_ (fun _ _ q => q.elim)
        refine w_sg k207 1 (pc' := 22) (ls' := [(0, aR 48 0), (1, aI l1), (2, aI l2), (3, aI l3), (4, aI (l4 + (nI 1)))]) (st' := []) (cs' := []) (fun _ => rfl) al0 ?_
        refine w_sg k207 1 (pc' := 9) (ls' := [(0, aR 48 0), (1, aI l1), (2, aI l2), (3, aI l3), (4, aI (l4 + (nI 1)))]) (st' := []) (cs' := []) (fun _ => rfl) al0 ?_
        refine w_ls [(0, aR 48 0), (1, aI l1), (2, aI l2), (3, aI l3), (4, aI (l4 + (nI 1)))] (lq_c rfl (lq_c rfl (lq_c rfl (lq_c rfl (lq_c rfl lq_n))))) ?_
        obtain rfl := Option.some.inj h
        exact ih6 _ _ _ (lpn_l hn5) kE8 kR9
  have J25_0 : ∀ (l2 : Int32) (l3 : Int32) (Y : Sm), fn_207_J25 l2 l3 Y = some o → Wm 13 0 207 0 25 [(0, aR 48 0), (2, aI l2), (3, aI l3)] [] Y (Rt (some (aI o.1)) o.2) nX := by
    intro l2 l3 Y h
    unfold fn_207_J25 at h
    refine w_sg k207 2 (pc' := 27) (ls' := [(0, aR 48 0), (2, aI l2), (3, aI l3)]) (st' := [aI l2, aR 48 0]) (cs' := []) (fun _ => rfl) al0 ?_
    obtain ⟨v14, Y12, hv13, h⟩ := bd_some h
    refine w_cV1 k207 (sn_206 _ _ _ hv13) rfl (st := []) rfl ?_ (fun _ _ q => q.elim)
    refine w_sg k207 2 (pc' := 32) (ls' := [(0, aR 48 0), (2, aI l2), (3, aI l3)]) (st' := [aI (v14 - l3)]) (cs' := []) (fun _ => rfl) al0 ?_
    obtain rfl := Option.some.inj h
    exact w_ireturn k207 ⟨rfl, rfl⟩
  refine w_sg k207 2 (pc' := 2) (ls' := [(0, aR 48 0), (1, aI a1), (2, aI a2)]) (st' := [aI a2, aR 48 0]) (cs' := []) (fun _ => rfl) al0 ?_
  obtain ⟨v3, Y1, hv2, h⟩ := bd_some h
  refine w_cV1 k207 (sn_206 _ _ _ hv2) rfl (st := []) rfl ?_ (fun _ _ q => q.elim)
  refine w_sg k207 1 (pc' := 6) (ls' := [(0, aR 48 0), (1, aI a1), (2, aI a2), (3, aI v3)]) (st' := []) (cs' := []) (fun _ => rfl) al0 ?_
  refine w_sg k207 2 (pc' := 9) (ls' := [(0, aR 48 0), (1, aI a1), (2, aI a2), (3, aI v3), (4, aI (nI 0))]) (st' := []) (cs' := []) (fun _ => rfl) al0 ?_
  obtain ⟨e17, hl15, hx16⟩ := exd_some h
  refine w_ls [(0, aR 48 0), (1, aI a1), (2, aI a2), (3, aI v3), (4, aI (nI 0))] (lq_c rfl (lq_c rfl (lq_c rfl (lq_c rfl (lq_c rfl lq_n))))) ?_
  refine L9_0 _ _ _ _ _ _ e17 hl15 (fun s9 hs9 => ?_) (fun r9 hr9 => ?_)
  · subst hs9
    replace h : fn_207_J25 a2 v3 s9 = some o := hx16
    refine w_ls [(0, aR 48 0), (2, aI a2), (3, aI v3)] (lq_c rfl (lq_c rfl (lq_c rfl lq_n))) ?_
    exact J25_0 _ _ _ h
  · subst hr9
    exact hx16
set_option maxRecDepth 20000 in
set_option maxHeartbeats 4000000 in
/-- BallotBusModel.done -/
theorem sn_172 (a1 : Int32) {Y : Sm} (v : Int32) (Z : Sm) (h : fn_172 a1 Y = some (v, Z)) : Mt 4 0 172 [aR 48 0, aI a1] Y (Rt (some (aI v)) Z) nX := by
  refine Mt_of [(0, aR 48 0), (1, aI a1)] ?_
  generalize ho : (v, Z) = o at h
  have hv9 : v = o.1 := congrArg Prod.fst ho
  have hZ9 : Z = o.2 := congrArg Prod.snd ho
  clear ho
  subst hv9 hZ9
  unfold fn_172 at h
  have L52_0 : ∀ (l1 : Int32) (n : Nat) (l2 : Int32) (Y : Sm), lp (fun s => fn_172_L52 l1 s.1 s.2) n (l2, Y) = some o → Wm 4 0 172 0 52 [(0, aR 48 0), (1, aI l1), (2, aI l2)] [] Y (Rt (some (aI o.1)) o.2) nX := by
    intro l1 n
    induction n with
    | zero => intro l2 Y h; cases h
    | succ n ih3 =>
      intro l2 Y h
      obtain ⟨q1, h, hn2⟩ := lp_succ h
      replace h : fn_172_L52 l1 l2 Y = some q1 := h
      unfold fn_172_L52 at h
      refine w_sg k172 2 (pc' := 56) (ls' := [(0, aR 48 0), (1, aI l1), (2, aI l2)]) (st' := [aI (nI 718), aI l2]) (cs' := []) (fun _ => rfl) al0 ?_
      refine w_icmp_ge k172 rfl (fun c => ?_) (fun c => ?_)
      · replace h := if_t c h
        refine w_sw k172 6 (Z := (sI Y 48 0 17 ((gI Y.1 48 0 17) + (nI 1)))) (pc' := 96) (ls' := [(0, aR 48 0), (1, aI l1), (2, aI l2)]) (st' := []) (cs' := [allw 48 0]) (fun _ => rfl) rfl (al1 rfl) ?_
        replace h := wr_some h
        generalize (sI Y 48 0 17 ((gI Y.1 48 0 17) + (nI 1))) = Y4 at h ⊢
        refine w_sg k172 1 (pc' := 97) (ls' := [(0, aR 48 0), (1, aI l1), (2, aI l2)]) (st' := [aI l1]) (cs' := []) (fun _ => rfl) al0 ?_
        obtain rfl := Option.some.inj h
        obtain rfl := lpn_r hn2
        exact w_ireturn k172 ⟨rfl, rfl⟩
      · replace h := if_f c h
        refine w_sg k172 8 (pc' := 73) (ls' := [(0, aR 48 0), (1, aI l1), (2, aI l2)]) (st' := [aI (((nI 718) * (gI Y.1 48 0 17)) + l2), aR 57 0]) (cs' := []) (fun _ => rfl) al0 ?_
        obtain ⟨hc5, h⟩ := ck_some h
        obtain ⟨hc6, h⟩ := ck_some h
        refine w_sw k172 5 (Z := (sI Y 57 0 (ix (((nI 718) * (gI Y.1 48 0 17)) + l2)) (gI Y.1 54 0 (ix l2)))) (pc' := 80) (ls' := [(0, aR 48 0), (1, aI l1), (2, aI l2)]) (st' := []) (cs' := [vp_in l2 718, vp_in (((nI 718) * (gI Y.1 48 0 17)) + l2) 5744, allw 57 0]) (fun _ => rfl) rfl (al2 (vin hc5) (al2 (vin hc6) (al1 rfl))) ?_
        replace h := wr_some h
        generalize (sI Y 57 0 (ix (((nI 718) * (gI Y.1 48 0 17)) + l2)) (gI Y.1 54 0 (ix l2))) = Y7 at h ⊢
        refine w_sg k172 1 (pc' := 83) (ls' := [(0, aR 48 0), (1, aI l1), (2, aI (l2 + (nI 1)))]) (st' := []) (cs' := []) (fun _ => rfl) al0 ?_
        refine w_sg k172 1 (pc' := 52) (ls' := [(0, aR 48 0), (1, aI l1), (2, aI (l2 + (nI 1)))]) (st' := []) (cs' := []) (fun _ => rfl) al0 ?_
        refine w_ls [(0, aR 48 0), (1, aI l1), (2, aI (l2 + (nI 1)))] (lq_c rfl (lq_c rfl (lq_c rfl lq_n))) ?_
        obtain rfl := Option.some.inj h
        exact ih3 _ _ (lpn_l hn2)
  have J50_0 : ∀ (l1 : Int32) (Y : Sm), fn_172_J50 l1 Y = some o → Wm 4 0 172 0 50 [(0, aR 48 0), (1, aI l1)] [] Y (Rt (some (aI o.1)) o.2) nX := by
    intro l1 Y h
    unfold fn_172_J50 at h
    refine w_sg k172 2 (pc' := 52) (ls' := [(0, aR 48 0), (1, aI l1), (2, aI (nI 0))]) (st' := []) (cs' := []) (fun _ => rfl) al0 ?_
    refine w_ls [(0, aR 48 0), (1, aI l1), (2, aI (nI 0))] (lq_c rfl (lq_c rfl (lq_c rfl lq_n))) ?_
    exact L52_0 _ _ _ _ h
  have L11_0 : ∀ (l1 : Int32) (n : Nat) (l2 : Int32) (Y : Sm) (e11 : (Sm) ⊕ (Int32 × Sm)), lp (fun s => fn_172_L11 l1 s.1 s.2) n (l2, Y) = some e11 → (∀ s9 : (Sm), e11 = .inl s9 → Wm 4 0 172 0 40 [(0, aR 48 0), (1, aI l1)] [] s9 (Rt (some (aI o.1)) o.2) nX) → (∀ r, e11 = .inr r → r = o) → Wm 4 0 172 0 11 [(0, aR 48 0), (1, aI l1), (2, aI l2)] [] Y (Rt (some (aI o.1)) o.2) nX := by
    intro l1 n
    induction n with
    | zero => intro l2 Y e11 h; cases h
    | succ n ih10 =>
      intro l2 Y e11 h kE12 kR13
      obtain ⟨q8, h, hn9⟩ := lp_succ h
      replace h : fn_172_L11 l1 l2 Y = some q8 := h
      unfold fn_172_L11 at h
      refine w_sg k172 2 (pc' := 15) (ls' := [(0, aR 48 0), (1, aI l1), (2, aI l2)]) (st' := [aI (nI 5026), aI l2]) (cs' := []) (fun _ => rfl) al0 ?_
      refine w_icmp_ge k172 rfl (fun c => ?_) (fun c => ?_)
      · replace h := if_t c h
        refine w_ls [(0, aR 48 0), (1, aI l1)] (lq_c rfl (lq_c rfl lq_n)) ?_
        obtain rfl := Option.some.inj h
        obtain rfl := lpn_r hn9
        exact kE12 (Y) rfl
      · replace h := if_f c h
        refine w_sg k172 8 (pc' := 32) (ls' := [(0, aR 48 0), (1, aI l1), (2, aI l2)]) (st' := [aI (l2 + (nI 718)), aR 57 0, aI l2, aR 57 0]) (cs' := []) (fun _ => rfl) al0 ?_
        obtain ⟨hc14, h⟩ := ck_some h
        obtain ⟨hc15, h⟩ := ck_some h
        refine w_sw k172 2 (Z := (sI Y 57 0 (ix l2) (gI Y.1 57 0 (ix (l2 + (nI 718)))))) (pc' := 34) (ls' := [(0, aR 48 0), (1, aI l1), (2, aI l2)]) (st' := []) (cs' := [vp_in (l2 + (nI 718)) 5744, vp_in l2 5744, allw 57 0]) (fun _ => rfl) rfl (al2 (vin hc14) (al2 (vin hc15) (al1 rfl))) ?_
        replace h := wr_some h
        generalize (sI Y 57 0 (ix l2) (gI Y.1 57 0 (ix (l2 + (nI 718))))) = Y16 at h ⊢
        refine w_sg k172 1 (pc' := 37) (ls' := [(0, aR 48 0), (1, aI l1), (2, aI (l2 + (nI 1)))]) (st' := []) (cs' := []) (fun _ => rfl) al0 ?_
        refine w_sg k172 1 (pc' := 11) (ls' := [(0, aR 48 0), (1, aI l1), (2, aI (l2 + (nI 1)))]) (st' := []) (cs' := []) (fun _ => rfl) al0 ?_
        refine w_ls [(0, aR 48 0), (1, aI l1), (2, aI (l2 + (nI 1)))] (lq_c rfl (lq_c rfl (lq_c rfl lq_n))) ?_
        obtain rfl := Option.some.inj h
        exact ih10 _ _ _ (lpn_l hn9) kE12 kR13
  have J40_0 : ∀ (l1 : Int32) (Y : Sm), fn_172_J40 l1 Y = some o → Wm 4 0 172 0 40 [(0, aR 48 0), (1, aI l1)] [] Y (Rt (some (aI o.1)) o.2) nX := by
    intro l1 Y h
    unfold fn_172_J40 at h
    refine w_sw k172 6 (Z := (sI Y 48 0 17 ((gI Y.1 48 0 17) - (nI 1)))) (pc' := 50) (ls' := [(0, aR 48 0), (1, aI l1)]) (st' := []) (cs' := [allw 48 0]) (fun _ => rfl) rfl (al1 rfl) ?_
    replace h := wr_some h
    generalize (sI Y 48 0 17 ((gI Y.1 48 0 17) - (nI 1))) = Y17 at h ⊢
    refine w_ls [(0, aR 48 0), (1, aI l1)] (lq_c rfl (lq_c rfl lq_n)) ?_
    exact J50_0 _ _ h
  refine w_sg k172 3 (pc' := 6) (ls' := [(0, aR 48 0), (1, aI a1)]) (st' := [aI (nI 8), aI (gI Y.1 48 0 17)]) (cs' := []) (fun _ => rfl) al0 ?_
  refine w_icmp_ne k172 rfl (fun c => ?_) (fun c => ?_)
  · replace h := if_f c h
    refine w_ls [(0, aR 48 0), (1, aI a1)] (lq_c rfl (lq_c rfl lq_n)) ?_
    exact J50_0 _ _ h
  · replace h := if_t c h
    refine w_sg k172 2 (pc' := 11) (ls' := [(0, aR 48 0), (1, aI a1), (2, aI (nI 0))]) (st' := []) (cs' := []) (fun _ => rfl) al0 ?_
    obtain ⟨e20, hl18, hx19⟩ := exd_some h
    refine w_ls [(0, aR 48 0), (1, aI a1), (2, aI (nI 0))] (lq_c rfl (lq_c rfl (lq_c rfl lq_n))) ?_
    refine L11_0 _ _ _ _ e20 hl18 (fun s9 hs9 => ?_) (fun r9 hr9 => ?_)
    · subst hs9
      replace h : fn_172_J40 a1 s9 = some o := hx19
      refine w_ls [(0, aR 48 0), (1, aI a1)] (lq_c rfl (lq_c rfl lq_n)) ?_
      exact J40_0 _ _ h
    · subst hr9
      exact hx19
set_option maxRecDepth 20000 in
set_option maxHeartbeats 4000000 in
/-- BallotBusModel.run -/
theorem sn_211 (a1 : Int32) {Y : Sm} (v : Int32) (Z : Sm) (h : fn_211 a1 Y = some (v, Z)) : Mt 14 0 211 [aR 48 0, aI a1] Y (Rt (some (aI v)) Z) nX := by
  refine Mt_of [(0, aR 48 0), (1, aI a1)] ?_
  generalize ho : (v, Z) = o at h
  have hv9 : v = o.1 := congrArg Prod.fst ho
  have hZ9 : Z = o.2 := congrArg Prod.snd ho
  clear ho
  subst hv9 hZ9
  unfold fn_211 at h
  refine w_sg k211 2 (pc' := 2) (ls' := [(0, aR 48 0), (1, aI a1)]) (st' := [aI a1, aR 48 0]) (cs' := []) (fun _ => rfl) al0 ?_
  obtain ⟨v3, Y1, hv2, h⟩ := bd_some h
  refine w_cS1 k211 (sn_210 _ _ _ hv2) rfl (st := [aR 48 0]) rfl ?_ (fun _ _ q => q.elim)
  obtain ⟨v6, Y4, hv5, h⟩ := bd_some h
  refine w_cV1 k211 (sn_164 _ _ _ hv5) rfl (st := []) rfl ?_ (fun _ _ q => q.elim)
  refine w_if_ne k211 rfl (fun c => ?_) (fun c => ?_)
  · replace h := if_f c h
    refine w_sg k211 1 (pc' := 14) (ls' := [(0, aR 48 0), (1, aI a1)]) (st' := [aR 48 0]) (cs' := []) (fun _ => rfl) al0 ?_
    obtain ⟨_, Y7, hv8, h⟩ := bd_some h
    refine w_cV0 k211 (sn_171  _ _ hv8) rfl (st := []) rfl ?_ (fun _ _ q => q.elim)
    refine w_sg k211 4 (pc' := 21) (ls' := [(0, aR 48 0), (1, aI a1)]) (st' := [aI (-1 : Int32), aI a1, aR 48 0, aR 48 0]) (cs' := []) (fun _ => rfl) al0 ?_
    obtain ⟨v11, Y9, hv10, h⟩ := bd_some h
    refine w_cV1 k211 (sn_207 _ _ _ _ hv10) rfl (st := [aR 48 0]) rfl ?_ (fun _ _ q => q.elim)
    obtain ⟨v14, Y12, hv13, h⟩ := bd_some h
    refine w_cV1 k211 (sn_172 _ _ _ hv13) rfl (st := []) rfl ?_ (fun _ _ q => q.elim)
    obtain rfl := Option.some.inj h
    exact w_ireturn k211 ⟨rfl, rfl⟩
  · replace h := if_t c h
    refine w_sg k211 1 (pc' := 12) (ls' := [(0, aR 48 0), (1, aI a1)]) (st' := [aI (nI 0)]) (cs' := []) (fun _ => rfl) al0 ?_
    obtain rfl := Option.some.inj h
    exact w_ireturn k211 ⟨rfl, rfl⟩
set_option maxRecDepth 20000 in
set_option maxHeartbeats 4000000 in
/-- BallotBusModel.isAsker -/
theorem sn_208 (a1 : Int32) {Y : Sm} (v : Int32) (Z : Sm) (h : fn_208 a1 Y = some (v, Z)) : Mt 5 0 208 [aR 48 0, aI a1] Y (Rt (some (aI v)) Z) nX := by
  refine Mt_of [(0, aR 48 0), (1, aI a1)] ?_
  generalize ho : (v, Z) = o at h
  have hv9 : v = o.1 := congrArg Prod.fst ho
  have hZ9 : Z = o.2 := congrArg Prod.snd ho
  clear ho
  subst hv9 hZ9
  unfold fn_208 at h
  refine w_sg k208 8 (pc' := 10) (ls' := [(0, aR 48 0), (1, aI a1)]) (st' := [aJ (((gI Y.1 48 0 2) - (nI 1)).toInt64), aJ (Int64.ofNat 0), aJ ((a1).toInt64)]) (cs' := []) (fun _ => rfl) al0 ?_
  obtain ⟨v3, Y1, hv2, h⟩ := bd_some h
  refine w_cS1 k208 (sn_166 _ _ _ _ _ hv2) rfl (st := []) rfl ?_ (fun _ _ q => q.elim)
  obtain ⟨hc4, h⟩ := ck_some h
  obtain rfl := Option.some.inj h
  exact w_zreturn k208 (bz_or hc4) ⟨rfl, rfl⟩
set_option maxRecDepth 20000 in
set_option maxHeartbeats 4000000 in
/-- BallotBusModel.may -/
theorem sn_165 (a1 : Int32) (a2 : Int32) {Y : Sm} (v : Int32) (Z : Sm) (h : fn_165 a1 a2 Y = some (v, Z)) : Mt 4 0 165 [aR 48 0, aI a1, aI a2] Y (Rt (some (aI v)) Z) nX := by
  refine Mt_of [(0, aR 48 0), (1, aI a1), (2, aI a2)] ?_
  generalize ho : (v, Z) = o at h
  have hv9 : v = o.1 := congrArg Prod.fst ho
  have hZ9 : Z = o.2 := congrArg Prod.snd ho
  clear ho
  subst hv9 hZ9
  unfold fn_165 at h
  refine w_sg k165 2 (pc' := 2) (ls' := [(0, aR 48 0), (1, aI a1), (2, aI a2)]) (st' := [aI a1, aR 48 0]) (cs' := []) (fun _ => rfl) al0 ?_
  refine w_if_eq k165 rfl (fun c => ?_) (fun c => ?_)
  · replace h := if_t c h
    refine w_sw k165 2 (Z := (sI Y 48 0 0 a2)) (pc' := 13) (ls' := [(0, aR 48 0), (1, aI a1), (2, aI a2)]) (st' := []) (cs' := [allw 48 0]) (fun _ => rfl) rfl (al1 rfl) ?_
    replace h := wr_some h
    generalize (sI Y 48 0 0 a2) = Y1 at h ⊢
    obtain ⟨hc2, h⟩ := ck_some h
    refine w_sg k165 1 (pc' := 14) (ls' := [(0, aR 48 0), (1, aI a1), (2, aI a2)]) (st' := [aI a1]) (cs' := []) (fun _ => rfl) al0 ?_
    obtain rfl := Option.some.inj h
    exact w_zreturn k165 (bz_or hc2) ⟨rfl, rfl⟩
  · replace h := if_f c h
    refine w_sw k165 3 (Z := (sI Y 48 0 0 (nI 0))) (pc' := 13) (ls' := [(0, aR 48 0), (1, aI a1), (2, aI a2)]) (st' := []) (cs' := [allw 48 0]) (fun _ => rfl) rfl (al1 rfl) ?_
    replace h := wr_some h
    generalize (sI Y 48 0 0 (nI 0)) = Y3 at h ⊢
    obtain ⟨hc4, h⟩ := ck_some h
    refine w_sg k165 1 (pc' := 14) (ls' := [(0, aR 48 0), (1, aI a1), (2, aI a2)]) (st' := [aI a1]) (cs' := []) (fun _ => rfl) al0 ?_
    obtain rfl := Option.some.inj h
    exact w_zreturn k165 (bz_or hc4) ⟨rfl, rfl⟩
set_option maxRecDepth 20000 in
set_option maxHeartbeats 4000000 in
/-- BallotBusModel.comes -/
theorem sn_183 (a1 : Int32) (a2 : Int32) (a3 : Int32) {Y : Sm} (v : Int32) (Z : Sm) (h : fn_183 a1 a2 a3 Y = some (v, Z)) : Mt 4 0 183 [aR 48 0, aI a1, aI a2, aI a3] Y (Rt (some (aI v)) Z) nX := by
  refine Mt_of [(0, aR 48 0), (1, aI a1), (2, aI a2), (3, aI a3)] ?_
  generalize ho : (v, Z) = o at h
  have hv9 : v = o.1 := congrArg Prod.fst ho
  have hZ9 : Z = o.2 := congrArg Prod.snd ho
  clear ho
  subst hv9 hZ9
  unfold fn_183 at h
  refine w_sg k183 5 (pc' := 9) (ls' := [(0, aR 48 0), (1, aI a1), (2, aI a2), (3, aI a3), (4, aI (gI Y.1 52 0 6))]) (st' := []) (cs' := [vp_in (nI 6) 718]) (fun _ => rfl) (al1 (vin rfl)) ?_
  refine w_sg k183 8 (pc' := 22) (ls' := [(0, aR 48 0), (1, aI a1), (2, aI a2), (3, aI a3), (4, aI (gI Y.1 52 0 6))]) (st' := [aI ((nI 118) + ((nI 6) * (gI Y.1 52 0 9)))]) (cs' := [vp_in (nI 9) 718]) (fun _ => rfl) (al1 (vin rfl)) ?_
  refine w_sg k183 1 (pc' := 24) (ls' := [(0, aR 48 0), (1, aI a1), (2, aI a2), (3, aI a3), (4, aI (gI Y.1 52 0 6)), (5, aI ((nI 118) + ((nI 6) * (gI Y.1 52 0 9))))]) (st' := []) (cs' := []) (fun _ => rfl) al0 ?_
  obtain ⟨hc1, h⟩ := ck_some h
  refine w_sw k183 7 (Z := (sI Y 52 0 (ix (((nI 118) + ((nI 6) * (gI Y.1 52 0 9))) + (nI 0))) (gI Y.1 52 0 6))) (pc' := 35) (ls' := [(0, aR 48 0), (1, aI a1), (2, aI a2), (3, aI a3), (4, aI (gI Y.1 52 0 6)), (5, aI ((nI 118) + ((nI 6) * (gI Y.1 52 0 9))))]) (st' := []) (cs' := [vp_in (((nI 118) + ((nI 6) * (gI Y.1 52 0 9))) + (nI 0)) 718, allw 52 0]) (fun _ => rfl) rfl (al2 (vin hc1) (al1 rfl)) ?_
  replace h := wr_some h
  generalize (sI Y 52 0 (ix (((nI 118) + ((nI 6) * (gI Y.1 52 0 9))) + (nI 0))) (gI Y.1 52 0 6)) = Y2 at h ⊢
  obtain ⟨hc3, h⟩ := ck_some h
  refine w_sw k183 7 (Z := (sI Y2 52 0 (ix (((nI 118) + ((nI 6) * (gI Y.1 52 0 9))) + (nI 1))) a1)) (pc' := 45) (ls' := [(0, aR 48 0), (1, aI a1), (2, aI a2), (3, aI a3), (4, aI (gI Y.1 52 0 6)), (5, aI ((nI 118) + ((nI 6) * (gI Y.1 52 0 9))))]) (st' := []) (cs' := [vp_in (((nI 118) + ((nI 6) * (gI Y.1 52 0 9))) + (nI 1)) 718, allw 52 0]) (fun _ => rfl) rfl (al2 (vin hc3) (al1 rfl)) ?_
  replace h := wr_some h
  generalize (sI Y2 52 0 (ix (((nI 118) + ((nI 6) * (gI Y.1 52 0 9))) + (nI 1))) a1) = Y4 at h ⊢
  obtain ⟨hc5, h⟩ := ck_some h
  refine w_sw k183 7 (Z := (sI Y4 52 0 (ix (((nI 118) + ((nI 6) * (gI Y.1 52 0 9))) + (nI 2))) a2)) (pc' := 55) (ls' := [(0, aR 48 0), (1, aI a1), (2, aI a2), (3, aI a3), (4, aI (gI Y.1 52 0 6)), (5, aI ((nI 118) + ((nI 6) * (gI Y.1 52 0 9))))]) (st' := []) (cs' := [vp_in (((nI 118) + ((nI 6) * (gI Y.1 52 0 9))) + (nI 2)) 718, allw 52 0]) (fun _ => rfl) rfl (al2 (vin hc5) (al1 rfl)) ?_
  replace h := wr_some h
  generalize (sI Y4 52 0 (ix (((nI 118) + ((nI 6) * (gI Y.1 52 0 9))) + (nI 2))) a2) = Y6 at h ⊢
  obtain ⟨hc7, h⟩ := ck_some h
  refine w_sw k183 7 (Z := (sI Y6 52 0 (ix (((nI 118) + ((nI 6) * (gI Y.1 52 0 9))) + (nI 3))) a3)) (pc' := 65) (ls' := [(0, aR 48 0), (1, aI a1), (2, aI a2), (3, aI a3), (4, aI (gI Y.1 52 0 6)), (5, aI ((nI 118) + ((nI 6) * (gI Y.1 52 0 9))))]) (st' := []) (cs' := [vp_in (((nI 118) + ((nI 6) * (gI Y.1 52 0 9))) + (nI 3)) 718, allw 52 0]) (fun _ => rfl) rfl (al2 (vin hc7) (al1 rfl)) ?_
  replace h := wr_some h
  generalize (sI Y6 52 0 (ix (((nI 118) + ((nI 6) * (gI Y.1 52 0 9))) + (nI 3))) a3) = Y8 at h ⊢
  obtain ⟨hc9, h⟩ := ck_some h
  refine w_sw k183 7 (Z := (sI Y8 52 0 (ix (((nI 118) + ((nI 6) * (gI Y.1 52 0 9))) + (nI 4))) a3)) (pc' := 75) (ls' := [(0, aR 48 0), (1, aI a1), (2, aI a2), (3, aI a3), (4, aI (gI Y.1 52 0 6)), (5, aI ((nI 118) + ((nI 6) * (gI Y.1 52 0 9))))]) (st' := []) (cs' := [vp_in (((nI 118) + ((nI 6) * (gI Y.1 52 0 9))) + (nI 4)) 718, allw 52 0]) (fun _ => rfl) rfl (al2 (vin hc9) (al1 rfl)) ?_
  replace h := wr_some h
  generalize (sI Y8 52 0 (ix (((nI 118) + ((nI 6) * (gI Y.1 52 0 9))) + (nI 4))) a3) = Y10 at h ⊢
  refine w_sg k183 8 (pc' := 88) (ls' := [(0, aR 48 0), (1, aI a1), (2, aI a2), (3, aI a3), (4, aI (gI Y.1 52 0 6)), (5, aI ((nI 118) + ((nI 6) * (gI Y.1 52 0 9))))]) (st' := [aI (nI 0), aR 52 0, aI (((nI 118) + ((nI 6) * (gI Y.1 52 0 9))) + (nI 5)), aR 52 0]) (cs' := []) (fun _ => rfl) al0 ?_
  obtain ⟨hc11, h⟩ := ck_some h
  refine w_sw k183 2 (Z := (sI Y10 52 0 (ix (((nI 118) + ((nI 6) * (gI Y.1 52 0 9))) + (nI 5))) (gI Y10.1 52 0 0))) (pc' := 90) (ls' := [(0, aR 48 0), (1, aI a1), (2, aI a2), (3, aI a3), (4, aI (gI Y.1 52 0 6)), (5, aI ((nI 118) + ((nI 6) * (gI Y.1 52 0 9))))]) (st' := []) (cs' := [vp_in (nI 0) 718, vp_in (((nI 118) + ((nI 6) * (gI Y.1 52 0 9))) + (nI 5)) 718, allw 52 0]) (fun _ => rfl) rfl (al2 (vin rfl) (al2 (vin hc11) (al1 rfl))) ?_
  replace h := wr_some h
  generalize (sI Y10 52 0 (ix (((nI 118) + ((nI 6) * (gI Y.1 52 0 9))) + (nI 5))) (gI Y10.1 52 0 0)) = Y12 at h ⊢
  refine w_sg k183 8 (pc' := 104) (ls' := [(0, aR 48 0), (1, aI a1), (2, aI a2), (3, aI a3), (4, aI (gI Y.1 52 0 6)), (5, aI ((nI 118) + ((nI 6) * (gI Y.1 52 0 9))))]) (st' := [aI (nI 1), aI (gI Y12.1 52 0 9), aI (nI 9), aR 52 0]) (cs' := [vp_in (nI 9) 718]) (fun _ => rfl) (al1 (vin rfl)) ?_
  refine w_sw k183 2 (Z := (sI Y12 52 0 9 ((gI Y12.1 52 0 9) + (nI 1)))) (pc' := 106) (ls' := [(0, aR 48 0), (1, aI a1), (2, aI a2), (3, aI a3), (4, aI (gI Y.1 52 0 6)), (5, aI ((nI 118) + ((nI 6) * (gI Y.1 52 0 9))))]) (st' := []) (cs' := [vp_in (nI 9) 718, allw 52 0]) (fun _ => rfl) rfl (al2 (vin rfl) (al1 rfl)) ?_
  replace h := wr_some h
  generalize (sI Y12 52 0 9 ((gI Y12.1 52 0 9) + (nI 1))) = Y13 at h ⊢
  refine w_sw k183 7 (Z := (sI Y13 52 0 6 ((gI Y.1 52 0 6) + (nI 1)))) (pc' := 117) (ls' := [(0, aR 48 0), (1, aI a1), (2, aI a2), (3, aI a3), (4, aI (gI Y.1 52 0 6)), (5, aI ((nI 118) + ((nI 6) * (gI Y.1 52 0 9))))]) (st' := []) (cs' := [vp_in (nI 6) 718, allw 52 0]) (fun _ => rfl) rfl (al2 (vin rfl) (al1 rfl)) ?_
  replace h := wr_some h
  generalize (sI Y13 52 0 6 ((gI Y.1 52 0 6) + (nI 1))) = Y14 at h ⊢
  refine w_sg k183 1 (pc' := 119) (ls' := [(0, aR 48 0), (1, aI a1), (2, aI a2), (3, aI a3), (4, aI (gI Y.1 52 0 6)), (5, aI ((nI 118) + ((nI 6) * (gI Y.1 52 0 9))))]) (st' := [aI (gI Y.1 52 0 6)]) (cs' := []) (fun _ => rfl) al0 ?_
  obtain rfl := Option.some.inj h
  exact w_ireturn k183 ⟨rfl, rfl⟩
set_option maxRecDepth 20000 in
set_option maxHeartbeats 4000000 in
/-- BallotBusModel.isClass -/
theorem sn_209 (a1 : Int32) {Y : Sm} (v : Int32) (Z : Sm) (h : fn_209 a1 Y = some (v, Z)) : Mt 5 0 209 [aR 48 0, aI a1] Y (Rt (some (aI v)) Z) nX := by
  refine Mt_of [(0, aR 48 0), (1, aI a1)] ?_
  generalize ho : (v, Z) = o at h
  have hv9 : v = o.1 := congrArg Prod.fst ho
  have hZ9 : Z = o.2 := congrArg Prod.snd ho
  clear ho
  subst hv9 hZ9
  unfold fn_209 at h
  refine w_sg k209 8 (pc' := 10) (ls' := [(0, aR 48 0), (1, aI a1)]) (st' := [aJ (((gI Y.1 48 0 1) - (nI 1)).toInt64), aJ (Int64.ofNat 0), aJ ((a1).toInt64)]) (cs' := []) (fun _ => rfl) al0 ?_
  obtain ⟨v3, Y1, hv2, h⟩ := bd_some h
  refine w_cS1 k209 (sn_166 _ _ _ _ _ hv2) rfl (st := []) rfl ?_ (fun _ _ q => q.elim)
  obtain ⟨hc4, h⟩ := ck_some h
  obtain rfl := Option.some.inj h
  exact w_zreturn k209 (bz_or hc4) ⟨rfl, rfl⟩
set_option maxRecDepth 20000 in
set_option maxHeartbeats 4000000 in
/-- BallotBusModel.ask -/
theorem sn_212 (a1 : Int32) (a2 : Int32) (a3 : Int32) {Y : Sm} (v : Int32) (Z : Sm) (h : fn_212 a1 a2 a3 Y = some (v, Z)) : Mt 6 0 212 [aR 48 0, aI a1, aI a2, aI a3] Y (Rt (some (aI v)) Z) nX := by
  refine Mt_of [(0, aR 48 0), (1, aI a1), (2, aI a2), (3, aI a3)] ?_
  generalize ho : (v, Z) = o at h
  have hv9 : v = o.1 := congrArg Prod.fst ho
  have hZ9 : Z = o.2 := congrArg Prod.snd ho
  clear ho
  subst hv9 hZ9
  unfold fn_212 at h
  have J78_0 : ∀ (l1 : Int32) (l2 : Int32) (l3 : Int32) (t0 : Int32) (Y : Sm), fn_212_J78 l1 l2 l3 t0 Y = some o → Wm 6 0 212 0 78 [(0, aR 48 0), (1, aI l1), (2, aI l2), (3, aI l3)] [aI t0, aR 48 0] Y (Rt (some (aI o.1)) o.2) nX := by
    intro l1 l2 l3 t0 Y h
    unfold fn_212_J78 at h
    refine w_sg k212 1 (pc' := 79) (ls' := [(0, aR 48 0), (1, aI l1), (2, aI l2), (3, aI l3)]) (st' := [aI (nI 3), aI t0, aR 48 0]) (cs' := []) (fun _ => rfl) al0 ?_
    obtain ⟨v15, Y13, hv14, h⟩ := bd_some h
    refine w_cV1 k212 (sn_165 _ _ _ _ hv14) rfl (st := []) rfl ?_ (fun _ _ q => q.elim)
    refine w_if_ne k212 rfl (fun c => ?_) (fun c => ?_)
    · replace h := if_f c h
      refine w_sg k212 1 (pc' := 88) (ls' := [(0, aR 48 0), (1, aI l1), (2, aI l2), (3, aI l3)]) (st' := [aR 48 0]) (cs' := []) (fun _ => rfl) al0 ?_
      obtain ⟨_, Y16, hv17, h⟩ := bd_some h
      refine w_cV0 k212 (sn_171  _ _ hv17) rfl (st := []) rfl ?_ (fun _ _ q => q.elim)
      refine w_sg k212 5 (pc' := 96) (ls' := [(0, aR 48 0), (1, aI l1), (2, aI l2), (3, aI l3)]) (st' := [aI l3, aI l2, aI l1, aR 48 0, aR 48 0]) (cs' := []) (fun _ => rfl) al0 ?_
      obtain ⟨v20, Y18, hv19, h⟩ := bd_some h
      refine w_cV1 k212 (sn_183 _ _ _ _ _ hv19) rfl (st := [aR 48 0]) rfl ?_ (fun _ _ q => q.elim)
      obtain ⟨v23, Y21, hv22, h⟩ := bd_some h
      refine w_cV1 k212 (sn_172 _ _ _ hv22) rfl (st := []) rfl ?_ (fun _ _ q => q.elim)
      obtain rfl := Option.some.inj h
      exact w_ireturn k212 ⟨rfl, rfl⟩
    · replace h := if_t c h
      refine w_sg k212 1 (pc' := 86) (ls' := [(0, aR 48 0), (1, aI l1), (2, aI l2), (3, aI l3)]) (st' := [aI (nI 0)]) (cs' := []) (fun _ => rfl) al0 ?_
      obtain rfl := Option.some.inj h
      exact w_ireturn k212 ⟨rfl, rfl⟩
  have J77_0 : ∀ (l1 : Int32) (l2 : Int32) (l3 : Int32) (Y : Sm), fn_212_J77 l1 l2 l3 Y = some o → Wm 6 0 212 0 77 [(0, aR 48 0), (1, aI l1), (2, aI l2), (3, aI l3)] [aR 48 0] Y (Rt (some (aI o.1)) o.2) nX := by
    intro l1 l2 l3 Y h
    unfold fn_212_J77 at h
    refine w_sg k212 1 (pc' := 78) (ls' := [(0, aR 48 0), (1, aI l1), (2, aI l2), (3, aI l3)]) (st' := [aI (nI 0), aR 48 0]) (cs' := []) (fun _ => rfl) al0 ?_
    refine w_ls [(0, aR 48 0), (1, aI l1), (2, aI l2), (3, aI l3)] (lq_c rfl (lq_c rfl (lq_c rfl (lq_c rfl lq_n)))) ?_
    exact J78_0 _ _ _ _ _ h
  have J22_0 : ∀ (l1 : Int32) (l2 : Int32) (l3 : Int32) (t0 : Int32) (Y : Sm), fn_212_J22 l1 l2 l3 t0 Y = some o → Wm 6 0 212 0 22 [(0, aR 48 0), (1, aI l1), (2, aI l2), (3, aI l3)] [aI t0, aR 48 0] Y (Rt (some (aI o.1)) o.2) nX := by
    intro l1 l2 l3 t0 Y h
    unfold fn_212_J22 at h
    obtain ⟨v6, Y4, hv5, h⟩ := bd_some h
    refine w_cV1 k212 (sn_164 _ _ _ hv5) rfl (st := []) rfl ?_ (fun _ _ q => q.elim)
    refine w_if_eq k212 rfl (fun c => ?_) (fun c => ?_)
    · replace h := if_t c h
      refine w_sg k212 1 (pc' := 46) (ls' := [(0, aR 48 0), (1, aI l1), (2, aI l2), (3, aI l3)]) (st' := [aI (nI 0)]) (cs' := []) (fun _ => rfl) al0 ?_
      obtain rfl := Option.some.inj h
      exact w_ireturn k212 ⟨rfl, rfl⟩
    · replace h := if_f c h
      refine w_sg k212 5 (pc' := 35) (ls' := [(0, aR 48 0), (1, aI l1), (2, aI l2), (3, aI l3)]) (st' := [aJ (((nI 20)).toInt64), aJ (Int64.ofNat 1), aJ ((l3).toInt64), aR 48 0]) (cs' := []) (fun _ => rfl) al0 ?_
      obtain ⟨v9, Y7, hv8, h⟩ := bd_some h
      refine w_cS1 k212 (sn_166 _ _ _ _ _ hv8) rfl (st := [aR 48 0]) rfl ?_ (fun _ _ q => q.elim)
      refine w_sg k212 1 (pc' := 39) (ls' := [(0, aR 48 0), (1, aI l1), (2, aI l2), (3, aI l3)]) (st' := [aI (nI 2), aI v9, aR 48 0]) (cs' := []) (fun _ => rfl) al0 ?_
      obtain ⟨v12, Y10, hv11, h⟩ := bd_some h
      refine w_cV1 k212 (sn_165 _ _ _ _ hv11) rfl (st := []) rfl ?_ (fun _ _ q => q.elim)
      refine w_if_ne k212 rfl (fun c => ?_) (fun c => ?_)
      · replace h := if_f c h
        refine w_sg k212 6 (pc' := 57) (ls' := [(0, aR 48 0), (1, aI l1), (2, aI l2), (3, aI l3)]) (st' := [aI (nI 40), aI (gI Y10.1 52 0 9), aR 48 0]) (cs' := [vp_in (nI 9) 718]) (fun _ => rfl) (al1 (vin rfl)) ?_
        refine w_icmp_ge k212 rfl (fun c => ?_) (fun c => ?_)
        · replace h := if_t c h
          refine w_ls [(0, aR 48 0), (1, aI l1), (2, aI l2), (3, aI l3)] (lq_c rfl (lq_c rfl (lq_c rfl (lq_c rfl lq_n)))) ?_
          exact J77_0 _ _ _ _ h
        · replace h := if_f c h
          refine w_sg k212 5 (pc' := 70) (ls' := [(0, aR 48 0), (1, aI l1), (2, aI l2), (3, aI l3)]) (st' := [aI (nI 9999), aI (gI Y10.1 52 0 6), aR 48 0]) (cs' := [vp_in (nI 6) 718]) (fun _ => rfl) (al1 (vin rfl)) ?_
          refine w_icmp_ge k212 rfl (fun c => ?_) (fun c => ?_)
          · replace h := if_t c h
            refine w_ls [(0, aR 48 0), (1, aI l1), (2, aI l2), (3, aI l3)] (lq_c rfl (lq_c rfl (lq_c rfl (lq_c rfl lq_n)))) ?_
            exact J77_0 _ _ _ _ h
          · replace h := if_f c h
            refine w_sg k212 2 (pc' := 78) (ls' := [(0, aR 48 0), (1, aI l1), (2, aI l2), (3, aI l3)]) (st' := [aI (nI 1), aR 48 0]) (cs' := []) (fun _ => rfl) al0 ?_
            refine w_ls [(0, aR 48 0), (1, aI l1), (2, aI l2), (3, aI l3)] (lq_c rfl (lq_c rfl (lq_c rfl (lq_c rfl lq_n)))) ?_
            exact J78_0 _ _ _ _ _ h
      · replace h := if_t c h
        refine w_sg k212 1 (pc' := 46) (ls' := [(0, aR 48 0), (1, aI l1), (2, aI l2), (3, aI l3)]) (st' := [aI (nI 0)]) (cs' := []) (fun _ => rfl) al0 ?_
        obtain rfl := Option.some.inj h
        exact w_ireturn k212 ⟨rfl, rfl⟩
  have J21_0 : ∀ (l1 : Int32) (l2 : Int32) (l3 : Int32) (Y : Sm), fn_212_J21 l1 l2 l3 Y = some o → Wm 6 0 212 0 21 [(0, aR 48 0), (1, aI l1), (2, aI l2), (3, aI l3)] [aR 48 0] Y (Rt (some (aI o.1)) o.2) nX := by
    intro l1 l2 l3 Y h
    unfold fn_212_J21 at h
    refine w_sg k212 1 (pc' := 22) (ls' := [(0, aR 48 0), (1, aI l1), (2, aI l2), (3, aI l3)]) (st' := [aI (nI 0), aR 48 0]) (cs' := []) (fun _ => rfl) al0 ?_
    refine w_ls [(0, aR 48 0), (1, aI l1), (2, aI l2), (3, aI l3)] (lq_c rfl (lq_c rfl (lq_c rfl (lq_c rfl lq_n)))) ?_
    exact J22_0 _ _ _ _ _ h
  refine w_sg k212 3 (pc' := 3) (ls' := [(0, aR 48 0), (1, aI a1), (2, aI a2), (3, aI a3)]) (st' := [aI a1, aR 48 0, aR 48 0]) (cs' := []) (fun _ => rfl) al0 ?_
  obtain ⟨v3, Y1, hv2, h⟩ := bd_some h
  refine w_cV1 k212 (sn_208 _ _ _ hv2) rfl (st := [aR 48 0]) rfl ?_ (fun _ _ q => q.elim)
  refine w_if_eq k212 rfl (fun c => ?_) (fun c => ?_)
  · replace h := if_t c h
    refine w_ls [(0, aR 48 0), (1, aI a1), (2, aI a2), (3, aI a3)] (lq_c rfl (lq_c rfl (lq_c rfl (lq_c rfl lq_n)))) ?_
    exact J21_0 _ _ _ _ h
  · replace h := if_f c h
    refine w_sg k212 2 (pc' := 11) (ls' := [(0, aR 48 0), (1, aI a1), (2, aI a2), (3, aI a3)]) (st' := [aI a2, aR 48 0, aR 48 0]) (cs' := []) (fun _ => rfl) al0 ?_
    obtain ⟨v26, Y24, hv25, h⟩ := bd_some h
    refine w_cV1 k212 (sn_209 _ _ _ hv25) rfl (st := [aR 48 0]) rfl ?_ (fun _ _ q => q.elim)
    refine w_if_eq k212 rfl (fun c => ?_) (fun c => ?_)
    · replace h := if_t c h
      refine w_ls [(0, aR 48 0), (1, aI a1), (2, aI a2), (3, aI a3)] (lq_c rfl (lq_c rfl (lq_c rfl (lq_c rfl lq_n)))) ?_
      exact J21_0 _ _ _ _ h
    · replace h := if_f c h
      refine w_sg k212 2 (pc' := 22) (ls' := [(0, aR 48 0), (1, aI a1), (2, aI a2), (3, aI a3)]) (st' := [aI (nI 1), aR 48 0]) (cs' := []) (fun _ => rfl) al0 ?_
      refine w_ls [(0, aR 48 0), (1, aI a1), (2, aI a2), (3, aI a3)] (lq_c rfl (lq_c rfl (lq_c rfl (lq_c rfl lq_n)))) ?_
      exact J22_0 _ _ _ _ _ h
set_option maxRecDepth 20000 in
set_option maxHeartbeats 4000000 in
/-- BallotBusModel.cancel -/
theorem sn_213 (a1 : Int32) {Y : Sm} (v : Int32) (Z : Sm) (h : fn_213 a1 Y = some (v, Z)) : Mt 6 0 213 [aR 48 0, aI a1] Y (Rt (some (aI v)) Z) nX := by
  refine Mt_of [(0, aR 48 0), (1, aI a1)] ?_
  generalize ho : (v, Z) = o at h
  have hv9 : v = o.1 := congrArg Prod.fst ho
  have hZ9 : Z = o.2 := congrArg Prod.snd ho
  clear ho
  subst hv9 hZ9
  unfold fn_213 at h
  have J17_0 : ∀ (l2 : Int32) (t0 : Int32) (Y : Sm), fn_213_J17 l2 t0 Y = some o → Wm 6 0 213 0 17 [(0, aR 48 0), (2, aI l2)] [aI t0, aR 48 0] Y (Rt (some (aI o.1)) o.2) nX := by
    intro l2 t0 Y h
    unfold fn_213_J17 at h
    refine w_sg k213 1 (pc' := 18) (ls' := [(0, aR 48 0), (2, aI l2)]) (st' := [aI (nI 2), aI t0, aR 48 0]) (cs' := []) (fun _ => rfl) al0 ?_
    obtain ⟨v6, Y4, hv5, h⟩ := bd_some h
    refine w_cV1 k213 (sn_165 _ _ _ _ hv5) rfl (st := []) rfl ?_ (fun _ _ q => q.elim)
    refine w_if_eq k213 rfl (fun c => ?_) (fun c => ?_)
    · replace h := if_t c h
      refine w_sg k213 1 (pc' := 38) (ls' := [(0, aR 48 0), (2, aI l2)]) (st' := [aI (nI 0)]) (cs' := []) (fun _ => rfl) al0 ?_
      obtain rfl := Option.some.inj h
      exact w_ireturn k213 ⟨rfl, rfl⟩
    · replace h := if_f c h
      refine w_sg k213 3 (pc' := 27) (ls' := [(0, aR 48 0), (2, aI l2)]) (st' := [aI l2, aR 48 0, aR 48 0]) (cs' := []) (fun _ => rfl) al0 ?_
      obtain ⟨v9, Y7, hv8, h⟩ := bd_some h
      refine w_cV1 k213 (sn_180 _ _ _ hv8) rfl (st := [aR 48 0]) rfl ?_ (fun _ _ q => q.elim)
      refine w_sg k213 1 (pc' := 31) (ls' := [(0, aR 48 0), (2, aI l2)]) (st' := [aI (nI 1), aI v9, aR 48 0]) (cs' := []) (fun _ => rfl) al0 ?_
      obtain ⟨v12, Y10, hv11, h⟩ := bd_some h
      refine w_cV1 k213 (sn_165 _ _ _ _ hv11) rfl (st := []) rfl ?_ (fun _ _ q => q.elim)
      refine w_if_ne k213 rfl (fun c => ?_) (fun c => ?_)
      · replace h := if_f c h
        refine w_sg k213 1 (pc' := 40) (ls' := [(0, aR 48 0), (2, aI l2)]) (st' := [aR 48 0]) (cs' := []) (fun _ => rfl) al0 ?_
        obtain ⟨_, Y13, hv14, h⟩ := bd_some h
        refine w_cV0 k213 (sn_171  _ _ hv14) rfl (st := []) rfl ?_ (fun _ _ q => q.elim)
        refine w_sg k213 3 (pc' := 46) (ls' := [(0, aR 48 0), (2, aI l2)]) (st' := [aI (nI 3), aI l2, aR 48 0]) (cs' := []) (fun _ => rfl) al0 ?_
        obtain ⟨v17, Y15, hv16, h⟩ := bd_some h
        refine w_cV1 k213 (sn_178 _ _ _ _ hv16) rfl (st := []) rfl ?_ (fun _ _ q => q.elim)
        refine w_sg k213 1 (pc' := 50) (ls' := [(0, aR 48 0), (2, aI l2), (3, aI v17)]) (st' := []) (cs' := []) (fun _ => rfl) al0 ?_
        refine w_sg k213 2 (pc' := 52) (ls' := [(0, aR 48 0), (2, aI l2), (3, aI v17)]) (st' := [aI l2, aR 48 0]) (cs' := []) (fun _ => rfl) al0 ?_
        obtain ⟨_, Y18, hv19, h⟩ := bd_some h
        refine w_cV0 k213 (sn_182 _ _ _ hv19) rfl (st := []) rfl ?_ (fun _ _ q => q.elim)
        refine w_sg k213 2 (pc' := 57) (ls' := [(0, aR 48 0), (2, aI l2), (3, aI v17)]) (st' := [aI v17, aR 48 0]) (cs' := []) (fun _ => rfl) al0 ?_
        obtain ⟨v22, Y20, hv21, h⟩ := bd_some h
        refine w_cV1 k213 (sn_172 _ _ _ hv21) rfl (st := []) rfl ?_ (fun _ _ q => q.elim)
        obtain rfl := Option.some.inj h
        exact w_ireturn k213 ⟨rfl, rfl⟩
      · replace h := if_t c h
        refine w_sg k213 1 (pc' := 38) (ls' := [(0, aR 48 0), (2, aI l2)]) (st' := [aI (nI 0)]) (cs' := []) (fun _ => rfl) al0 ?_
        obtain rfl := Option.some.inj h
        exact w_ireturn k213 ⟨rfl, rfl⟩
  refine w_sg k213 2 (pc' := 2) (ls' := [(0, aR 48 0), (1, aI a1)]) (st' := [aI a1, aR 48 0]) (cs' := []) (fun _ => rfl) al0 ?_
  obtain ⟨v3, Y1, hv2, h⟩ := bd_some h
  refine w_cV1 k213 (sn_179 _ _ _ hv2) rfl (st := []) rfl ?_ (fun _ _ q => q.elim)
  refine w_sg k213 1 (pc' := 6) (ls' := [(0, aR 48 0), (1, aI a1), (2, aI v3)]) (st' := []) (cs' := []) (fun _ => rfl) al0 ?_
  refine w_sg k213 3 (pc' := 9) (ls' := [(0, aR 48 0), (1, aI a1), (2, aI v3)]) (st' := [aI (-1 : Int32), aI v3, aR 48 0]) (cs' := []) (fun _ => rfl) al0 ?_
  refine w_icmp_eq k213 rfl (fun c => ?_) (fun c => ?_)
  · replace h := if_t c h
    refine w_sg k213 1 (pc' := 17) (ls' := [(0, aR 48 0), (1, aI a1), (2, aI v3)]) (st' := [aI (nI 0), aR 48 0]) (cs' := []) (fun _ => rfl) al0 ?_
    refine w_ls [(0, aR 48 0), (2, aI v3)] (lq_c rfl (lq_c rfl lq_n)) ?_
    exact J17_0 _ _ _ h
  · replace h := if_f c h
    refine w_sg k213 2 (pc' := 17) (ls' := [(0, aR 48 0), (1, aI a1), (2, aI v3)]) (st' := [aI (nI 1), aR 48 0]) (cs' := []) (fun _ => rfl) al0 ?_
    refine w_ls [(0, aR 48 0), (2, aI v3)] (lq_c rfl (lq_c rfl lq_n)) ?_
    exact J17_0 _ _ _ h
set_option maxRecDepth 20000 in
set_option maxHeartbeats 4000000 in
/-- BallotBusModel.casts -/
theorem sn_215 {Y : Sm} (v : Int32) (Z : Sm) (h : fn_215 Y = some (v, Z)) : Mt 4 0 215 [aR 48 0] Y (Rt (some (aI v)) Z) nX := by
  refine Mt_of [(0, aR 48 0)] ?_
  generalize ho : (v, Z) = o at h
  have hv9 : v = o.1 := congrArg Prod.fst ho
  have hZ9 : Z = o.2 := congrArg Prod.snd ho
  clear ho
  subst hv9 hZ9
  unfold fn_215 at h
  have L9_0 : ∀ (l1 : Int32) (n : Nat) (l2 : Int32) (Y : Sm) (e4 : (Sm) ⊕ (Int32 × Sm)), lp (fun s => fn_215_L9 l1 s.1 s.2) n (l2, Y) = some e4 → (∀ s9 : (Sm), e4 = .inl s9 → Wm 4 0 215 0 42 [(0, aR 48 0), (1, aI l1)] [] s9 (Rt (some (aI o.1)) o.2) nX) → (∀ r, e4 = .inr r → r = o) → Wm 4 0 215 0 9 [(0, aR 48 0), (1, aI l1), (2, aI l2)] [] Y (Rt (some (aI o.1)) o.2) nX := by
    intro l1 n
    induction n with
    | zero => intro l2 Y e4 h; cases h
    | succ n ih3 =>
      intro l2 Y e4 h kE5 kR6
      obtain ⟨q1, h, hn2⟩ := lp_succ h
      replace h : fn_215_L9 l1 l2 Y = some q1 := h
      unfold fn_215_L9 at h
      refine w_sg k215 3 (pc' := 14) (ls' := [(0, aR 48 0), (1, aI l1), (2, aI l2)]) (st' := [aI (gI Y.1 48 0 1), aI l2]) (cs' := []) (fun _ => rfl) al0 ?_
      refine w_icmp_ge k215 rfl (fun c => ?_) (fun c => ?_)
      · replace h := if_t c h
        refine w_ls [(0, aR 48 0), (1, aI l1)] (lq_c rfl (lq_c rfl lq_n)) ?_
        obtain rfl := Option.some.inj h
        obtain rfl := lpn_r hn2
        exact kE5 (Y) rfl
      · replace h := if_f c h
        refine w_sg k215 8 (pc' := 28) (ls' := [(0, aR 48 0), (1, aI l1), (2, aI l2)]) (st' := [aI l2, aI ((nI 78) + ((nI 5) * l1)), aR 52 0]) (cs' := []) (fun _ => rfl) al0 ?_
        obtain ⟨hc7, h⟩ := ck_some h
        obtain ⟨hc8, h⟩ := ck_some h
        refine w_sw k215 6 (Z := (sI Y 52 0 (ix (((nI 78) + ((nI 5) * l1)) + l2)) (gI Y.1 58 0 (ix l2)))) (pc' := 36) (ls' := [(0, aR 48 0), (1, aI l1), (2, aI l2)]) (st' := []) (cs' := [vp_in l2 5, vp_in (((nI 78) + ((nI 5) * l1)) + l2) 718, allw 52 0]) (fun _ => rfl) rfl (al2 (vin hc7) (al2 (vin hc8) (al1 rfl))) ?_
        replace h := wr_some h
        generalize (sI Y 52 0 (ix (((nI 78) + ((nI 5) * l1)) + l2)) (gI Y.1 58 0 (ix l2))) = Y9 at h ⊢
        refine w_sg k215 1 (pc' := 39) (ls' := [(0, aR 48 0), (1, aI l1), (2, aI (l2 + (nI 1)))]) (st' := []) (cs' := []) (fun _ => rfl) al0 ?_
        refine w_sg k215 1 (pc' := 9) (ls' := [(0, aR 48 0), (1, aI l1), (2, aI (l2 + (nI 1)))]) (st' := []) (cs' := []) (fun _ => rfl) al0 ?_
        refine w_ls [(0, aR 48 0), (1, aI l1), (2, aI (l2 + (nI 1)))] (lq_c rfl (lq_c rfl (lq_c rfl lq_n))) ?_
        obtain rfl := Option.some.inj h
        exact ih3 _ _ _ (lpn_l hn2) kE5 kR6
  have J42_0 : ∀ (l1 : Int32) (Y : Sm), fn_215_J42 l1 Y = some o → Wm 4 0 215 0 42 [(0, aR 48 0), (1, aI l1)] [] Y (Rt (some (aI o.1)) o.2) nX := by
    intro l1 Y h
    unfold fn_215_J42 at h
    obtain ⟨hc10, h⟩ := ck_some h
    refine w_sw k215 7 (Z := (sI Y 52 0 (ix ((nI 36) + l1)) (nI 0))) (pc' := 52) (ls' := [(0, aR 48 0), (1, aI l1)]) (st' := []) (cs' := [vp_in ((nI 36) + l1) 718, allw 52 0]) (fun _ => rfl) rfl (al2 (vin hc10) (al1 rfl)) ?_
    replace h := wr_some h
    generalize (sI Y 52 0 (ix ((nI 36) + l1)) (nI 0)) = Y11 at h ⊢
    refine w_sw k215 5 (Z := (sI Y11 52 0 3 (nI 1))) (pc' := 59) (ls' := [(0, aR 48 0), (1, aI l1)]) (st' := []) (cs' := [vp_in (nI 3) 718, allw 52 0]) (fun _ => rfl) rfl (al2 (vin rfl) (al1 rfl)) ?_
    replace h := wr_some h
    generalize (sI Y11 52 0 3 (nI 1)) = Y12 at h ⊢
    refine w_sg k215 1 (pc' := 60) (ls' := [(0, aR 48 0), (1, aI l1)]) (st' := [aI l1]) (cs' := []) (fun _ => rfl) al0 ?_
    obtain rfl := Option.some.inj h
    exact w_ireturn k215 ⟨rfl, rfl⟩
  refine w_sg k215 5 (pc' := 7) (ls' := [(0, aR 48 0), (1, aI (gI Y.1 52 0 2))]) (st' := []) (cs' := [vp_in (nI 2) 718]) (fun _ => rfl) (al1 (vin rfl)) ?_
  refine w_sg k215 2 (pc' := 9) (ls' := [(0, aR 48 0), (1, aI (gI Y.1 52 0 2)), (2, aI (nI 0))]) (st' := []) (cs' := []) (fun _ => rfl) al0 ?_
  obtain ⟨e15, hl13, hx14⟩ := exd_some h
  refine w_ls [(0, aR 48 0), (1, aI (gI Y.1 52 0 2)), (2, aI (nI 0))] (lq_c rfl (lq_c rfl (lq_c rfl lq_n))) ?_
  refine L9_0 _ _ _ _ e15 hl13 (fun s9 hs9 => ?_) (fun r9 hr9 => ?_)
  · subst hs9
    replace h : fn_215_J42 (gI Y.1 52 0 2) s9 = some o := hx14
    refine w_ls [(0, aR 48 0), (1, aI (gI Y.1 52 0 2))] (lq_c rfl (lq_c rfl lq_n)) ?_
    exact J42_0 _ _ h
  · subst hr9
    exact hx14
set_option maxRecDepth 20000 in
set_option maxHeartbeats 4000000 in
/-- BallotBusModel.isBallot -/
theorem sn_214 (a1 : Int32) {Y : Sm} (v : Int32) (Z : Sm) (h : fn_214 a1 Y = some (v, Z)) : Mt 6 0 214 [aR 48 0, aI a1] Y (Rt (some (aI v)) Z) nX := by
  refine Mt_of [(0, aR 48 0), (1, aI a1)] ?_
  generalize ho : (v, Z) = o at h
  have hv9 : v = o.1 := congrArg Prod.fst ho
  have hZ9 : Z = o.2 := congrArg Prod.snd ho
  clear ho
  subst hv9 hZ9
  unfold fn_214 at h
  have L12_0 : ∀ (n : Nat) (l2 : Int32) (l3 : Int32) (l4 : Int32) (Y : Sm) (e4 : (Int32 × Sm) ⊕ (Int32 × Sm)), lp (fun s => fn_214_L12 s.1 s.2.1 s.2.2.1 s.2.2.2) n (l2, l3, l4, Y) = some e4 → (∀ s9 : (Int32 × Sm), e4 = .inl s9 → Wm 6 0 214 0 70 [(2, aI s9.1)] [] s9.2 (Rt (some (aI o.1)) o.2) nX) → (∀ r, e4 = .inr r → r = o) → Wm 6 0 214 0 12 [(0, aR 48 0), (2, aI l2), (3, aI l3), (4, aI l4)] [] Y (Rt (some (aI o.1)) o.2) nX := by
    intro n
    induction n with
    | zero => intro l2 l3 l4 Y e4 h; cases h
    | succ n ih3 =>
      intro l2 l3 l4 Y e4 h kE5 kR6
      obtain ⟨q1, h, hn2⟩ := lp_succ h
      replace h : fn_214_L12 l2 l3 l4 Y = some q1 := h
      unfold fn_214_L12 at h
      refine w_sg k214 1 (pc' := 14) (ls' := [(0, aR 48 0), (2, aI l2), (3, aI l3), (4, aI l4)]) (st' := [aI l4]) (cs' := []) (fun _ => rfl) al0 ?_
      refine w_if_lt k214 rfl (fun c => ?_) (fun c => ?_)
      · replace h := if_t c h
        refine w_ls [(2, aI l2)] (lq_c rfl lq_n) ?_
        obtain rfl := Option.some.inj h
        obtain rfl := lpn_r hn2
        exact kE5 (l2, Y) rfl
      · replace h := if_f c h
        refine w_sg k214 4 (pc' := 23) (ls' := [(0, aR 48 0), (2, aI l2), (3, aI l3), (4, aI l4), (5, aI (l2 - l2 / (nI 10) * (nI 10)))]) (st' := []) (cs' := [¬ (nI 10) = 0]) (fun _ => rfl) (al1 (by decide)) ?_
        refine w_sg k214 4 (pc' := 28) (ls' := [(0, aR 48 0), (2, aI (l2 / (nI 10))), (3, aI l3), (4, aI l4), (5, aI (l2 - l2 / (nI 10) * (nI 10)))]) (st' := []) (cs' := [¬ (nI 10) = 0]) (fun _ => rfl) (al1 (by decide)) ?_
        refine w_sg k214 2 (pc' := 31) (ls' := [(0, aR 48 0), (2, aI (l2 / (nI 10))), (3, aI l3), (4, aI l4), (5, aI (l2 - l2 / (nI 10) * (nI 10)))]) (st' := [aI (l2 - l2 / (nI 10) * (nI 10)), aR 48 0]) (cs' := []) (fun _ => rfl) al0 ?_
        obtain ⟨v9, Y7, hv8, h⟩ := bd_some h
        refine w_cV1 k214 (sn_209 _ _ _ hv8) rfl (st := []) rfl ?_ (fun _ _ q => q.elim)
        refine w_if_eq k214 rfl (fun c => ?_) (fun c => ?_)
        · replace h := if_t c h
          refine w_sg k214 1 (pc' := 47) (ls' := [(0, aR 48 0), (2, aI (l2 / (nI 10))), (3, aI l3), (4, aI l4), (5, aI (l2 - l2 / (nI 10) * (nI 10)))]) (st' := [aI (nI 0)]) (cs' := []) (fun _ => rfl) al0 ?_
          obtain rfl := Option.some.inj h
          obtain rfl := lpn_r hn2
          obtain rfl := kR6 _ rfl
          exact w_zreturn k214 (Or.inl rfl) ⟨rfl, rfl⟩
        · replace h := if_f c h
          refine w_sg k214 2 (pc' := 40) (ls' := [(0, aR 48 0), (2, aI (l2 / (nI 10))), (3, aI l3), (4, aI l4), (5, aI (l2 - l2 / (nI 10) * (nI 10)))]) (st' := [aI (l2 - l2 / (nI 10) * (nI 10)), aI l3]) (cs' := []) (fun _ => rfl) al0 ?_
          obtain ⟨v12, Y10, hv11, h⟩ := bd_some h
          refine w_cS1 k214 (sn_167 _ _ _ _ hv11) rfl (st := []) rfl ?_ (fun _ _ q => q.elim)
          refine w_if_eq k214 rfl (fun c => ?_) (fun c => ?_)
          · replace h := if_t c h
            refine w_sg k214 6 (pc' := 55) (ls' := [(0, aR 48 0), (2, aI (l2 / (nI 10))), (3, aI (l3 ||| ((nI 1) <<< ((l2 - l2 / (nI 10) * (nI 10)) &&& 31)))), (4, aI l4), (5, aI (l2 - l2 / (nI 10) * (nI 10)))]) (st' := []) (cs' := []) (fun _ => rfl) al0 ?_
            obtain ⟨hc13, h⟩ := ck_some h
            refine w_sw k214 5 (Z := (sI Y10 58 0 (ix l4) (l2 - l2 / (nI 10) * (nI 10)))) (pc' := 64) (ls' := [(0, aR 48 0), (2, aI (l2 / (nI 10))), (3, aI (l3 ||| ((nI 1) <<< ((l2 - l2 / (nI 10) * (nI 10)) &&& 31)))), (4, aI l4), (5, aI (l2 - l2 / (nI 10) * (nI 10)))]) (st' := []) (cs' := [vp_in l4 5, allw 58 0]) (fun _ => rfl) rfl (al2 (vin hc13) (al1 rfl)) ?_
            replace h := wr_some h
            generalize (sI Y10 58 0 (ix l4) (l2 - l2 / (nI 10) * (nI 10))) = Y14 at h ⊢
            refine w_sg k214 1 (pc' := 67) (ls' := [(0, aR 48 0), (2, aI (l2 / (nI 10))), (3, aI (l3 ||| ((nI 1) <<< ((l2 - l2 / (nI 10) * (nI 10)) &&& 31)))), (4, aI (l4 + (-1 : Int32))), (5, aI (l2 - l2 / (nI 10) * (nI 10)))]) (st' := []) (cs' := []) (fun _ => rfl) al0 ?_
            refine w_sg k214 1 (pc' := 12) (ls' := [(0, aR 48 0), (2, aI (l2 / (nI 10))), (3, aI (l3 ||| ((nI 1) <<< ((l2 - l2 / (nI 10) * (nI 10)) &&& 31)))), (4, aI (l4 + (-1 : Int32))), (5, aI (l2 - l2 / (nI 10) * (nI 10)))]) (st' := []) (cs' := []) (fun _ => rfl) al0 ?_
            refine w_ls [(0, aR 48 0), (2, aI (l2 / (nI 10))), (3, aI (l3 ||| ((nI 1) <<< ((l2 - l2 / (nI 10) * (nI 10)) &&& 31)))), (4, aI (l4 + (-1 : Int32)))] (lq_c rfl (lq_c rfl (lq_c rfl (lq_c rfl lq_n)))) ?_
            obtain rfl := Option.some.inj h
            exact ih3 _ _ _ _ _ (lpn_l hn2) kE5 kR6
          · replace h := if_f c h
            refine w_sg k214 1 (pc' := 47) (ls' := [(0, aR 48 0), (2, aI (l2 / (nI 10))), (3, aI l3), (4, aI l4), (5, aI (l2 - l2 / (nI 10) * (nI 10)))]) (st' := [aI (nI 0)]) (cs' := []) (fun _ => rfl) al0 ?_
            obtain rfl := Option.some.inj h
            obtain rfl := lpn_r hn2
            obtain rfl := kR6 _ rfl
            exact w_zreturn k214 (Or.inl rfl) ⟨rfl, rfl⟩
  have J70_0 : ∀ (l2 : Int32) (Y : Sm), fn_214_J70 l2 Y = some o → Wm 6 0 214 0 70 [(2, aI l2)] [] Y (Rt (some (aI o.1)) o.2) nX := by
    intro l2 Y h
    unfold fn_214_J70 at h
    refine w_sg k214 1 (pc' := 71) (ls' := [(2, aI l2)]) (st' := [aI l2]) (cs' := []) (fun _ => rfl) al0 ?_
    refine w_if_ne k214 rfl (fun c => ?_) (fun c => ?_)
    · replace h := if_f c h
      refine w_sg k214 1 (pc' := 79) (ls' := [(2, aI l2)]) (st' := [aI (nI 0)]) (cs' := []) (fun _ => rfl) al0 ?_
      obtain rfl := Option.some.inj h
      exact w_zreturn k214 (Or.inl rfl) ⟨rfl, rfl⟩
    · replace h := if_t c h
      refine w_sg k214 2 (pc' := 79) (ls' := [(2, aI l2)]) (st' := [aI (nI 1)]) (cs' := []) (fun _ => rfl) al0 ?_
      obtain rfl := Option.some.inj h
      exact w_zreturn k214 (Or.inr rfl) ⟨rfl, rfl⟩
  refine w_sg k214 2 (pc' := 2) (ls' := [(0, aR 48 0), (1, aI a1), (2, aI a1)]) (st' := []) (cs' := []) (fun _ => rfl) al0 ?_
  refine w_sg k214 2 (pc' := 4) (ls' := [(0, aR 48 0), (1, aI a1), (2, aI a1), (3, aI (nI 0))]) (st' := []) (cs' := []) (fun _ => rfl) al0 ?_
  refine w_sg k214 5 (pc' := 12) (ls' := [(0, aR 48 0), (1, aI a1), (2, aI a1), (3, aI (nI 0)), (4, aI ((gI Y.1 48 0 1) - (nI 1)))]) (st' := []) (cs' := []) (fun _ => rfl) al0 ?_
  obtain ⟨e17, hl15, hx16⟩ := exd_some h
  refine w_ls [(0, aR 48 0), (2, aI a1), (3, aI (nI 0)), (4, aI ((gI Y.1 48 0 1) - (nI 1)))] (lq_c rfl (lq_c rfl (lq_c rfl (lq_c rfl lq_n)))) ?_
  refine L12_0 _ _ _ _ _ e17 hl15 (fun s9 hs9 => ?_) (fun r9 hr9 => ?_)
  · subst hs9
    replace h : fn_214_J70 s9.1 s9.2 = some o := hx16
    refine w_ls [(2, aI s9.1)] (lq_c rfl lq_n) ?_
    exact J70_0 _ _ h
  · subst hr9
    exact hx16
set_option maxRecDepth 20000 in
set_option maxHeartbeats 4000000 in
/-- BallotBusModel.cast -/
theorem sn_216 (a1 : Int32) {Y : Sm} (v : Int32) (Z : Sm) (h : fn_216 a1 Y = some (v, Z)) : Mt 7 0 216 [aR 48 0, aI a1] Y (Rt (some (aI v)) Z) nX := by
  refine Mt_of [(0, aR 48 0), (1, aI a1)] ?_
  generalize ho : (v, Z) = o at h
  have hv9 : v = o.1 := congrArg Prod.fst ho
  have hZ9 : Z = o.2 := congrArg Prod.snd ho
  clear ho
  subst hv9 hZ9
  unfold fn_216 at h
  have J18_0 : ∀ (t0 : Int32) (Y : Sm), fn_216_J18 t0 Y = some o → Wm 7 0 216 0 18 [(0, aR 48 0)] [aI t0, aR 48 0] Y (Rt (some (aI o.1)) o.2) nX := by
    intro t0 Y h
    unfold fn_216_J18 at h
    obtain ⟨v3, Y1, hv2, h⟩ := bd_some h
    refine w_cV1 k216 (sn_164 _ _ _ hv2) rfl (st := []) rfl ?_ (fun _ _ q => q.elim)
    refine w_if_ne k216 rfl (fun c => ?_) (fun c => ?_)
    · replace h := if_f c h
      refine w_sg k216 1 (pc' := 27) (ls' := [(0, aR 48 0)]) (st' := [aR 48 0]) (cs' := []) (fun _ => rfl) al0 ?_
      obtain ⟨_, Y4, hv5, h⟩ := bd_some h
      refine w_cV0 k216 (sn_171  _ _ hv5) rfl (st := []) rfl ?_ (fun _ _ q => q.elim)
      refine w_sg k216 2 (pc' := 32) (ls' := [(0, aR 48 0)]) (st' := [aR 48 0, aR 48 0]) (cs' := []) (fun _ => rfl) al0 ?_
      obtain ⟨v8, Y6, hv7, h⟩ := bd_some h
      refine w_cV1 k216 (sn_215  _ _ hv7) rfl (st := [aR 48 0]) rfl ?_ (fun _ _ q => q.elim)
      obtain ⟨v11, Y9, hv10, h⟩ := bd_some h
      refine w_cV1 k216 (sn_172 _ _ _ hv10) rfl (st := []) rfl ?_ (fun _ _ q => q.elim)
      obtain rfl := Option.some.inj h
      exact w_ireturn k216 ⟨rfl, rfl⟩
    · replace h := if_t c h
      refine w_sg k216 1 (pc' := 25) (ls' := [(0, aR 48 0)]) (st' := [aI (nI 0)]) (cs' := []) (fun _ => rfl) al0 ?_
      obtain rfl := Option.some.inj h
      exact w_ireturn k216 ⟨rfl, rfl⟩
  have J17_0 : ∀ (Y : Sm), fn_216_J17 Y = some o → Wm 7 0 216 0 17 [(0, aR 48 0)] [aR 48 0] Y (Rt (some (aI o.1)) o.2) nX := by
    intro Y h
    unfold fn_216_J17 at h
    refine w_sg k216 1 (pc' := 18) (ls' := [(0, aR 48 0)]) (st' := [aI (nI 0), aR 48 0]) (cs' := []) (fun _ => rfl) al0 ?_
    refine w_ls [(0, aR 48 0)] (lq_c rfl lq_n) ?_
    exact J18_0 _ _ h
  refine w_sg k216 2 (pc' := 2) (ls' := [(0, aR 48 0), (1, aI a1)]) (st' := [aI a1, aR 48 0]) (cs' := []) (fun _ => rfl) al0 ?_
  refine w_if_lt k216 rfl (fun c => ?_) (fun c => ?_)
  · replace h := if_t c h
    refine w_ls [(0, aR 48 0)] (lq_c rfl lq_n) ?_
    exact J17_0 _ h
  · replace h := if_f c h
    refine w_sg k216 2 (pc' := 7) (ls' := [(0, aR 48 0), (1, aI a1)]) (st' := [aI a1, aR 48 0, aR 48 0]) (cs' := []) (fun _ => rfl) al0 ?_
    obtain ⟨v14, Y12, hv13, h⟩ := bd_some h
    refine w_cV1 k216 (sn_214 _ _ _ hv13) rfl (st := [aR 48 0]) rfl ?_ (fun _ _ q => q.elim)
    refine w_if_eq k216 rfl (fun c => ?_) (fun c => ?_)
    · replace h := if_t c h
      refine w_ls [(0, aR 48 0)] (lq_c rfl lq_n) ?_
      exact J17_0 _ h
    · replace h := if_f c h
      refine w_sg k216 2 (pc' := 18) (ls' := [(0, aR 48 0), (1, aI a1)]) (st' := [aI (nI 1), aR 48 0]) (cs' := []) (fun _ => rfl) al0 ?_
      refine w_ls [(0, aR 48 0)] (lq_c rfl lq_n) ?_
      exact J18_0 _ _ h
set_option maxRecDepth 20000 in
set_option maxHeartbeats 4000000 in
/-- BallotBusModel.greater -/
theorem sn_169 (a0 : Int32) (a1 : Int32) {Y : Sm} (v : Int32) (Z : Sm) (h : fn_169 a0 a1 Y = some (v, Z)) : Mt 4 0 169 [aI a0, aI a1] Y (Rt (some (aI v)) Z) nX := by
  refine Mt_of [(0, aI a0), (1, aI a1)] ?_
  generalize ho : (v, Z) = o at h
  have hv9 : v = o.1 := congrArg Prod.fst ho
  have hZ9 : Z = o.2 := congrArg Prod.snd ho
  clear ho
  subst hv9 hZ9
  unfold fn_169 at h
  refine w_sg k169 2 (pc' := 2) (ls' := [(0, aI a0), (1, aI a1)]) (st' := [aI a1, aI a0]) (cs' := []) (fun _ => rfl) al0 ?_
  refine w_icmp_le k169 rfl (fun c => ?_) (fun c => ?_)
  · replace h := if_t c h
    refine w_sg k169 1 (pc' := 10) (ls' := [(0, aI a0), (1, aI a1)]) (st' := [aI a1]) (cs' := []) (fun _ => rfl) al0 ?_
    obtain rfl := Option.some.inj h
    exact w_ireturn k169 ⟨rfl, rfl⟩
  · replace h := if_f c h
    refine w_sg k169 2 (pc' := 10) (ls' := [(0, aI a0), (1, aI a1)]) (st' := [aI a0]) (cs' := []) (fun _ => rfl) al0 ?_
    obtain rfl := Option.some.inj h
    exact w_ireturn k169 ⟨rfl, rfl⟩
set_option maxRecDepth 20000 in
set_option maxHeartbeats 4000000 in
/-- BallotBusModel.debtBehind -/
theorem sn_217 (a1 : Int32) {Y : Sm} (v : Int32) (Z : Sm) (h : fn_217 a1 Y = some (v, Z)) : Mt 5 0 217 [aR 48 0, aI a1] Y (Rt (some (aI v)) Z) nX := by
  refine Mt_of [(0, aR 48 0), (1, aI a1)] ?_
  generalize ho : (v, Z) = o at h
  have hv9 : v = o.1 := congrArg Prod.fst ho
  have hZ9 : Z = o.2 := congrArg Prod.snd ho
  clear ho
  subst hv9 hZ9
  unfold fn_217 at h
  obtain ⟨hc1, h⟩ := ck_some h
  refine w_sg k217 8 (pc' := 11) (ls' := [(0, aR 48 0), (1, aI a1)]) (st' := [aR 48 0, aI (nI 0), aI (gI Y.1 52 0 (ix ((nI 28) + a1)))]) (cs' := [vp_in ((nI 28) + a1) 718]) (fun _ => rfl) (al1 (vin hc1)) ?_
  obtain ⟨hc2, h⟩ := ck_some h
  refine w_sg k217 8 (pc' := 24) (ls' := [(0, aR 48 0), (1, aI a1)]) (st' := [aI ((gI Y.1 48 0 5) - (gI Y.1 52 0 (ix ((nI 20) + a1)))), aI (nI 0), aI (gI Y.1 52 0 (ix ((nI 28) + a1)))]) (cs' := [vp_in ((nI 20) + a1) 718]) (fun _ => rfl) (al1 (vin hc2)) ?_
  obtain ⟨v5, Y3, hv4, h⟩ := bd_some h
  refine w_cS1 k217 (sn_169 _ _ _ _ hv4) rfl (st := [aI (gI Y.1 52 0 (ix ((nI 28) + a1)))]) rfl ?_ (fun _ _ q => q.elim)
  refine w_sg k217 1 (pc' := 28) (ls' := [(0, aR 48 0), (1, aI a1)]) (st' := [aI ((gI Y.1 52 0 (ix ((nI 28) + a1))) + v5)]) (cs' := []) (fun _ => rfl) al0 ?_
  obtain rfl := Option.some.inj h
  exact w_ireturn k217 ⟨rfl, rfl⟩
set_option maxRecDepth 20000 in
set_option maxHeartbeats 4000000 in
/-- BallotBusModel.canVeto -/
theorem sn_218 (a1 : Int32) (a2 : Int32) {Y : Sm} (v : Int32) (Z : Sm) (h : fn_218 a1 a2 Y = some (v, Z)) : Mt 6 0 218 [aR 48 0, aI a1, aI a2] Y (Rt (some (aI v)) Z) nX := by
  refine Mt_of [(0, aR 48 0), (1, aI a1), (2, aI a2)] ?_
  generalize ho : (v, Z) = o at h
  have hv9 : v = o.1 := congrArg Prod.fst ho
  have hZ9 : Z = o.2 := congrArg Prod.snd ho
  clear ho
  subst hv9 hZ9
  unfold fn_218 at h
  refine w_sg k218 5 (pc' := 7) (ls' := [(0, aR 48 0), (1, aI a1), (2, aI a2)]) (st' := [aI a2, aI (gI Y.1 52 0 4)]) (cs' := [vp_in (nI 4) 718]) (fun _ => rfl) (al1 (vin rfl)) ?_
  obtain ⟨v3, Y1, hv2, h⟩ := bd_some h
  refine w_cS1 k218 (sn_167 _ _ _ _ hv2) rfl (st := []) rfl ?_ (fun _ _ q => q.elim)
  refine w_if_ne k218 rfl (fun c => ?_) (fun c => ?_)
  · replace h := if_f c h
    refine w_sg k218 1 (pc' := 30) (ls' := [(0, aR 48 0), (1, aI a1), (2, aI a2)]) (st' := [aI (nI 0)]) (cs' := []) (fun _ => rfl) al0 ?_
    obtain rfl := Option.some.inj h
    exact w_zreturn k218 (Or.inl rfl) ⟨rfl, rfl⟩
  · replace h := if_t c h
    refine w_sg k218 2 (pc' := 15) (ls' := [(0, aR 48 0), (1, aI a1), (2, aI a2)]) (st' := [aI a1, aR 48 0]) (cs' := []) (fun _ => rfl) al0 ?_
    obtain ⟨v6, Y4, hv5, h⟩ := bd_some h
    refine w_cV1 k218 (sn_217 _ _ _ hv5) rfl (st := []) rfl ?_ (fun _ _ q => q.elim)
    refine w_sg k218 2 (pc' := 22) (ls' := [(0, aR 48 0), (1, aI a1), (2, aI a2)]) (st' := [aI (gI Y4.1 48 0 6), aI v6]) (cs' := []) (fun _ => rfl) al0 ?_
    refine w_icmp_gt k218 rfl (fun c => ?_) (fun c => ?_)
    · replace h := if_t c h
      refine w_sg k218 1 (pc' := 30) (ls' := [(0, aR 48 0), (1, aI a1), (2, aI a2)]) (st' := [aI (nI 0)]) (cs' := []) (fun _ => rfl) al0 ?_
      obtain rfl := Option.some.inj h
      exact w_zreturn k218 (Or.inl rfl) ⟨rfl, rfl⟩
    · replace h := if_f c h
      refine w_sg k218 2 (pc' := 30) (ls' := [(0, aR 48 0), (1, aI a1), (2, aI a2)]) (st' := [aI (nI 1)]) (cs' := []) (fun _ => rfl) al0 ?_
      obtain rfl := Option.some.inj h
      exact w_zreturn k218 (Or.inr rfl) ⟨rfl, rfl⟩
set_option maxRecDepth 20000 in
set_option maxHeartbeats 4000000 in
/-- BallotBusModel.vetoes -/
theorem sn_219 (a1 : Int32) (a2 : Int32) {Y : Sm} (v : Int32) (Z : Sm) (h : fn_219 a1 a2 Y = some (v, Z)) : Mt 6 0 219 [aR 48 0, aI a1, aI a2] Y (Rt (some (aI v)) Z) nX := by
  refine Mt_of [(0, aR 48 0), (1, aI a1), (2, aI a2)] ?_
  generalize ho : (v, Z) = o at h
  have hv9 : v = o.1 := congrArg Prod.fst ho
  have hZ9 : Z = o.2 := congrArg Prod.snd ho
  clear ho
  subst hv9 hZ9
  unfold fn_219 at h
  refine w_sg k219 7 (pc' := 10) (ls' := [(0, aR 48 0), (1, aI a1), (2, aI a2)]) (st' := [aI a1, aR 48 0, aI ((nI 28) + a1), aR 52 0]) (cs' := []) (fun _ => rfl) al0 ?_
  obtain ⟨v3, Y1, hv2, h⟩ := bd_some h
  refine w_cV1 k219 (sn_217 _ _ _ hv2) rfl (st := [aI ((nI 28) + a1), aR 52 0]) rfl ?_ (fun _ _ q => q.elim)
  obtain ⟨hc4, h⟩ := ck_some h
  refine w_sw k219 1 (Z := (sI Y1 52 0 (ix ((nI 28) + a1)) v3)) (pc' := 14) (ls' := [(0, aR 48 0), (1, aI a1), (2, aI a2)]) (st' := []) (cs' := [vp_in ((nI 28) + a1) 718, allw 52 0]) (fun _ => rfl) rfl (al2 (vin hc4) (al1 rfl)) ?_
  replace h := wr_some h
  generalize (sI Y1 52 0 (ix ((nI 28) + a1)) v3) = Y5 at h ⊢
  refine w_sg k219 8 (pc' := 27) (ls' := [(0, aR 48 0), (1, aI a1), (2, aI a2)]) (st' := [aR 52 0, aI (nI 0), aI ((nI 20) + a1), aR 52 0]) (cs' := []) (fun _ => rfl) al0 ?_
  obtain ⟨hc6, h⟩ := ck_some h
  refine w_sg k219 7 (pc' := 37) (ls' := [(0, aR 48 0), (1, aI a1), (2, aI a2)]) (st' := [aI ((gI Y5.1 52 0 (ix ((nI 20) + a1))) - (gI Y5.1 48 0 5)), aI (nI 0), aI ((nI 20) + a1), aR 52 0]) (cs' := [vp_in ((nI 20) + a1) 718]) (fun _ => rfl) (al1 (vin hc6)) ?_
  obtain ⟨v9, Y7, hv8, h⟩ := bd_some h
  refine w_cS1 k219 (sn_169 _ _ _ _ hv8) rfl (st := [aI ((nI 20) + a1), aR 52 0]) rfl ?_ (fun _ _ q => q.elim)
  refine w_sw k219 1 (Z := (sI Y7 52 0 (ix ((nI 20) + a1)) v9)) (pc' := 41) (ls' := [(0, aR 48 0), (1, aI a1), (2, aI a2)]) (st' := []) (cs' := [vp_in ((nI 20) + a1) 718, allw 52 0]) (fun _ => rfl) rfl (al2 (vin hc6) (al1 rfl)) ?_
  replace h := wr_some h
  generalize (sI Y7 52 0 (ix ((nI 20) + a1)) v9) = Y10 at h ⊢
  refine w_sg k219 8 (pc' := 53) (ls' := [(0, aR 48 0), (1, aI a1), (2, aI a2)]) (st' := [aI (nI 1), aI (gI Y10.1 52 0 4), aI (nI 4), aR 52 0]) (cs' := [vp_in (nI 4) 718]) (fun _ => rfl) (al1 (vin rfl)) ?_
  refine w_sw k219 4 (Z := (sI Y10 52 0 4 ((gI Y10.1 52 0 4) ||| ((nI 1) <<< (a2 &&& 31))))) (pc' := 57) (ls' := [(0, aR 48 0), (1, aI a1), (2, aI a2)]) (st' := []) (cs' := [vp_in (nI 4) 718, allw 52 0]) (fun _ => rfl) rfl (al2 (vin rfl) (al1 rfl)) ?_
  replace h := wr_some h
  generalize (sI Y10 52 0 4 ((gI Y10.1 52 0 4) ||| ((nI 1) <<< (a2 &&& 31)))) = Y11 at h ⊢
  refine w_sg k219 8 (pc' := 71) (ls' := [(0, aR 48 0), (1, aI a1), (2, aI a2)]) (st' := [aI (nI 44), aR 52 0, aI ((nI 44) + a1), aR 52 0]) (cs' := []) (fun _ => rfl) al0 ?_
  obtain ⟨hc12, h⟩ := ck_some h
  refine w_sw k219 6 (Z := (sI Y11 52 0 (ix ((nI 44) + a1)) ((gI Y11.1 52 0 (ix ((nI 44) + a1))) + (nI 1)))) (pc' := 77) (ls' := [(0, aR 48 0), (1, aI a1), (2, aI a2)]) (st' := []) (cs' := [vp_in ((nI 44) + a1) 718, vp_in ((nI 44) + a1) 718, allw 52 0]) (fun _ => rfl) rfl (al2 (vin hc12) (al2 (vin hc12) (al1 rfl))) ?_
  replace h := wr_some h
  generalize (sI Y11 52 0 (ix ((nI 44) + a1)) ((gI Y11.1 52 0 (ix ((nI 44) + a1))) + (nI 1))) = Y13 at h ⊢
  refine w_sg k219 6 (pc' := 86) (ls' := [(0, aR 48 0), (1, aI a1), (2, aI a2)]) (st' := [aI (gI Y13.1 52 0 (ix ((nI 28) + a1)))]) (cs' := [vp_in ((nI 28) + a1) 718]) (fun _ => rfl) (al1 (vin hc4)) ?_
  obtain rfl := Option.some.inj h
  exact w_ireturn k219 ⟨rfl, rfl⟩
set_option maxRecDepth 20000 in
set_option maxHeartbeats 4000000 in
/-- BallotBusModel.veto -/
theorem sn_220 (a1 : Int32) (a2 : Int32) {Y : Sm} (v : Int32) (Z : Sm) (h : fn_220 a1 a2 Y = some (v, Z)) : Mt 7 0 220 [aR 48 0, aI a1, aI a2] Y (Rt (some (aI v)) Z) nX := by
  refine Mt_of [(0, aR 48 0), (1, aI a1), (2, aI a2)] ?_
  generalize ho : (v, Z) = o at h
  have hv9 : v = o.1 := congrArg Prod.fst ho
  have hZ9 : Z = o.2 := congrArg Prod.snd ho
  clear ho
  subst hv9 hZ9
  unfold fn_220 at h
  have J22_0 : ∀ (l1 : Int32) (l2 : Int32) (t0 : Int32) (Y : Sm), fn_220_J22 l1 l2 t0 Y = some o → Wm 7 0 220 0 22 [(0, aR 48 0), (1, aI l1), (2, aI l2)] [aI t0, aR 48 0] Y (Rt (some (aI o.1)) o.2) nX := by
    intro l1 l2 t0 Y h
    unfold fn_220_J22 at h
    obtain ⟨v6, Y4, hv5, h⟩ := bd_some h
    refine w_cV1 k220 (sn_164 _ _ _ hv5) rfl (st := []) rfl ?_ (fun _ _ q => q.elim)
    refine w_if_eq k220 rfl (fun c => ?_) (fun c => ?_)
    · replace h := if_t c h
      refine w_sg k220 1 (pc' := 43) (ls' := [(0, aR 48 0), (1, aI l1), (2, aI l2)]) (st' := [aI (nI 0)]) (cs' := []) (fun _ => rfl) al0 ?_
      obtain rfl := Option.some.inj h
      exact w_ireturn k220 ⟨rfl, rfl⟩
    · replace h := if_f c h
      refine w_sg k220 4 (pc' := 32) (ls' := [(0, aR 48 0), (1, aI l1), (2, aI l2)]) (st' := [aI l2, aI l1, aR 48 0, aR 48 0]) (cs' := []) (fun _ => rfl) al0 ?_
      obtain ⟨v9, Y7, hv8, h⟩ := bd_some h
      refine w_cV1 k220 (sn_218 _ _ _ _ hv8) rfl (st := [aR 48 0]) rfl ?_ (fun _ _ q => q.elim)
      refine w_sg k220 1 (pc' := 36) (ls' := [(0, aR 48 0), (1, aI l1), (2, aI l2)]) (st' := [aI (nI 2), aI v9, aR 48 0]) (cs' := []) (fun _ => rfl) al0 ?_
      obtain ⟨v12, Y10, hv11, h⟩ := bd_some h
      refine w_cV1 k220 (sn_165 _ _ _ _ hv11) rfl (st := []) rfl ?_ (fun _ _ q => q.elim)
      refine w_if_ne k220 rfl (fun c => ?_) (fun c => ?_)
      · replace h := if_f c h
        refine w_sg k220 1 (pc' := 45) (ls' := [(0, aR 48 0), (1, aI l1), (2, aI l2)]) (st' := [aR 48 0]) (cs' := []) (fun _ => rfl) al0 ?_
        obtain ⟨_, Y13, hv14, h⟩ := bd_some h
        refine w_cV0 k220 (sn_171  _ _ hv14) rfl (st := []) rfl ?_ (fun _ _ q => q.elim)
        refine w_sg k220 4 (pc' := 52) (ls' := [(0, aR 48 0), (1, aI l1), (2, aI l2)]) (st' := [aI l2, aI l1, aR 48 0, aR 48 0]) (cs' := []) (fun _ => rfl) al0 ?_
        obtain ⟨v17, Y15, hv16, h⟩ := bd_some h
        refine w_cV1 k220 (sn_219 _ _ _ _ hv16) rfl (st := [aR 48 0]) rfl ?_ (fun _ _ q => q.elim)
        obtain ⟨v20, Y18, hv19, h⟩ := bd_some h
        refine w_cV1 k220 (sn_172 _ _ _ hv19) rfl (st := []) rfl ?_ (fun _ _ q => q.elim)
        obtain rfl := Option.some.inj h
        exact w_ireturn k220 ⟨rfl, rfl⟩
      · replace h := if_t c h
        refine w_sg k220 1 (pc' := 43) (ls' := [(0, aR 48 0), (1, aI l1), (2, aI l2)]) (st' := [aI (nI 0)]) (cs' := []) (fun _ => rfl) al0 ?_
        obtain rfl := Option.some.inj h
        exact w_ireturn k220 ⟨rfl, rfl⟩
  have J21_0 : ∀ (l1 : Int32) (l2 : Int32) (Y : Sm), fn_220_J21 l1 l2 Y = some o → Wm 7 0 220 0 21 [(0, aR 48 0), (1, aI l1), (2, aI l2)] [aR 48 0] Y (Rt (some (aI o.1)) o.2) nX := by
    intro l1 l2 Y h
    unfold fn_220_J21 at h
    refine w_sg k220 1 (pc' := 22) (ls' := [(0, aR 48 0), (1, aI l1), (2, aI l2)]) (st' := [aI (nI 0), aR 48 0]) (cs' := []) (fun _ => rfl) al0 ?_
    refine w_ls [(0, aR 48 0), (1, aI l1), (2, aI l2)] (lq_c rfl (lq_c rfl (lq_c rfl lq_n))) ?_
    exact J22_0 _ _ _ _ h
  refine w_sg k220 3 (pc' := 3) (ls' := [(0, aR 48 0), (1, aI a1), (2, aI a2)]) (st' := [aI a1, aR 48 0, aR 48 0]) (cs' := []) (fun _ => rfl) al0 ?_
  obtain ⟨v3, Y1, hv2, h⟩ := bd_some h
  refine w_cV1 k220 (sn_208 _ _ _ hv2) rfl (st := [aR 48 0]) rfl ?_ (fun _ _ q => q.elim)
  refine w_if_eq k220 rfl (fun c => ?_) (fun c => ?_)
  · replace h := if_t c h
    refine w_ls [(0, aR 48 0), (1, aI a1), (2, aI a2)] (lq_c rfl (lq_c rfl (lq_c rfl lq_n))) ?_
    exact J21_0 _ _ _ h
  · replace h := if_f c h
    refine w_sg k220 2 (pc' := 11) (ls' := [(0, aR 48 0), (1, aI a1), (2, aI a2)]) (st' := [aI a2, aR 48 0, aR 48 0]) (cs' := []) (fun _ => rfl) al0 ?_
    obtain ⟨v23, Y21, hv22, h⟩ := bd_some h
    refine w_cV1 k220 (sn_209 _ _ _ hv22) rfl (st := [aR 48 0]) rfl ?_ (fun _ _ q => q.elim)
    refine w_if_eq k220 rfl (fun c => ?_) (fun c => ?_)
    · replace h := if_t c h
      refine w_ls [(0, aR 48 0), (1, aI a1), (2, aI a2)] (lq_c rfl (lq_c rfl (lq_c rfl lq_n))) ?_
      exact J21_0 _ _ _ h
    · replace h := if_f c h
      refine w_sg k220 2 (pc' := 22) (ls' := [(0, aR 48 0), (1, aI a1), (2, aI a2)]) (st' := [aI (nI 1), aR 48 0]) (cs' := []) (fun _ => rfl) al0 ?_
      refine w_ls [(0, aR 48 0), (1, aI a1), (2, aI a2)] (lq_c rfl (lq_c rfl (lq_c rfl lq_n))) ?_
      exact J22_0 _ _ _ _ h
set_option maxRecDepth 20000 in
set_option maxHeartbeats 4000000 in
/-- BallotBusModel.payBack -/
theorem sn_221 (a1 : Int32) {Y : Sm} (v : Int32) (Z : Sm) (h : fn_221 a1 Y = some (v, Z)) : Mt 6 0 221 [aR 48 0, aI a1] Y (Rt (some (aI v)) Z) nX := by
  refine Mt_of [(0, aR 48 0), (1, aI a1)] ?_
  generalize ho : (v, Z) = o at h
  have hv9 : v = o.1 := congrArg Prod.fst ho
  have hZ9 : Z = o.2 := congrArg Prod.snd ho
  clear ho
  subst hv9 hZ9
  unfold fn_221 at h
  refine w_sg k221 3 (pc' := 3) (ls' := [(0, aR 48 0), (1, aI a1)]) (st' := [aI a1, aR 48 0, aR 48 0]) (cs' := []) (fun _ => rfl) al0 ?_
  obtain ⟨v3, Y1, hv2, h⟩ := bd_some h
  refine w_cV1 k221 (sn_208 _ _ _ hv2) rfl (st := [aR 48 0]) rfl ?_ (fun _ _ q => q.elim)
  obtain ⟨v6, Y4, hv5, h⟩ := bd_some h
  refine w_cV1 k221 (sn_164 _ _ _ hv5) rfl (st := []) rfl ?_ (fun _ _ q => q.elim)
  refine w_if_ne k221 rfl (fun c => ?_) (fun c => ?_)
  · replace h := if_f c h
    refine w_sg k221 1 (pc' := 15) (ls' := [(0, aR 48 0), (1, aI a1)]) (st' := [aR 48 0]) (cs' := []) (fun _ => rfl) al0 ?_
    obtain ⟨_, Y7, hv8, h⟩ := bd_some h
    refine w_cV0 k221 (sn_171  _ _ hv8) rfl (st := []) rfl ?_ (fun _ _ q => q.elim)
    obtain ⟨hc9, h⟩ := ck_some h
    refine w_sg k221 8 (pc' := 31) (ls' := [(0, aR 48 0), (1, aI a1)]) (st' := [aR 52 0, aI (gI Y7.1 52 0 (ix ((nI 20) + a1)))]) (cs' := [vp_in ((nI 20) + a1) 718]) (fun _ => rfl) (al1 (vin hc9)) ?_
    obtain ⟨hc10, h⟩ := ck_some h
    refine w_sg k221 4 (pc' := 36) (ls' := [(0, aR 48 0), (1, aI a1)]) (st' := [aI (gI Y7.1 52 0 (ix ((nI 28) + a1))), aI (gI Y7.1 52 0 (ix ((nI 20) + a1)))]) (cs' := [vp_in ((nI 28) + a1) 718]) (fun _ => rfl) (al1 (vin hc10)) ?_
    obtain ⟨v13, Y11, hv12, h⟩ := bd_some h
    refine w_cS1 k221 (sn_168 _ _ _ _ hv12) rfl (st := []) rfl ?_ (fun _ _ q => q.elim)
    refine w_sg k221 1 (pc' := 40) (ls' := [(0, aR 48 0), (1, aI a1), (2, aI v13)]) (st' := []) (cs' := []) (fun _ => rfl) al0 ?_
    refine w_sg k221 8 (pc' := 54) (ls' := [(0, aR 48 0), (1, aI a1), (2, aI v13)]) (st' := [aI (nI 20), aR 52 0, aI ((nI 20) + a1), aR 52 0]) (cs' := []) (fun _ => rfl) al0 ?_
    refine w_sw k221 6 (Z := (sI Y11 52 0 (ix ((nI 20) + a1)) ((gI Y11.1 52 0 (ix ((nI 20) + a1))) - v13))) (pc' := 60) (ls' := [(0, aR 48 0), (1, aI a1), (2, aI v13)]) (st' := []) (cs' := [vp_in ((nI 20) + a1) 718, vp_in ((nI 20) + a1) 718, allw 52 0]) (fun _ => rfl) rfl (al2 (vin hc9) (al2 (vin hc9) (al1 rfl))) ?_
    replace h := wr_some h
    generalize (sI Y11 52 0 (ix ((nI 20) + a1)) ((gI Y11.1 52 0 (ix ((nI 20) + a1))) - v13)) = Y14 at h ⊢
    refine w_sg k221 8 (pc' := 74) (ls' := [(0, aR 48 0), (1, aI a1), (2, aI v13)]) (st' := [aI (nI 28), aR 52 0, aI ((nI 28) + a1), aR 52 0]) (cs' := []) (fun _ => rfl) al0 ?_
    refine w_sw k221 6 (Z := (sI Y14 52 0 (ix ((nI 28) + a1)) ((gI Y14.1 52 0 (ix ((nI 28) + a1))) - v13))) (pc' := 80) (ls' := [(0, aR 48 0), (1, aI a1), (2, aI v13)]) (st' := []) (cs' := [vp_in ((nI 28) + a1) 718, vp_in ((nI 28) + a1) 718, allw 52 0]) (fun _ => rfl) rfl (al2 (vin hc10) (al2 (vin hc10) (al1 rfl))) ?_
    replace h := wr_some h
    generalize (sI Y14 52 0 (ix ((nI 28) + a1)) ((gI Y14.1 52 0 (ix ((nI 28) + a1))) - v13)) = Y15 at h ⊢
    refine w_sg k221 2 (pc' := 82) (ls' := [(0, aR 48 0), (1, aI a1), (2, aI v13)]) (st' := [aI v13, aR 48 0]) (cs' := []) (fun _ => rfl) al0 ?_
    obtain ⟨v18, Y16, hv17, h⟩ := bd_some h
    refine w_cV1 k221 (sn_172 _ _ _ hv17) rfl (st := []) rfl ?_ (fun _ _ q => q.elim)
    obtain rfl := Option.some.inj h
    exact w_ireturn k221 ⟨rfl, rfl⟩
  · replace h := if_t c h
    refine w_sg k221 1 (pc' := 13) (ls' := [(0, aR 48 0), (1, aI a1)]) (st' := [aI (nI 0)]) (cs' := []) (fun _ => rfl) al0 ?_
    obtain rfl := Option.some.inj h
    exact w_ireturn k221 ⟨rfl, rfl⟩
set_option maxRecDepth 20000 in
set_option maxHeartbeats 4000000 in
/-- BallotBusModel.isTally -/
theorem sn_222 (a0 : Int32) {Y : Sm} (v : Int32) (Z : Sm) (h : fn_222 a0 Y = some (v, Z)) : Mt 5 0 222 [aI a0] Y (Rt (some (aI v)) Z) nX := by
  refine Mt_of [(0, aI a0)] ?_
  generalize ho : (v, Z) = o at h
  have hv9 : v = o.1 := congrArg Prod.fst ho
  have hZ9 : Z = o.2 := congrArg Prod.snd ho
  clear ho
  subst hv9 hZ9
  unfold fn_222 at h
  refine w_sg k222 4 (pc' := 6) (ls' := [(0, aI a0)]) (st' := [aJ (((nI 2)).toInt64), aJ (Int64.ofNat 0), aJ ((a0).toInt64)]) (cs' := []) (fun _ => rfl) al0 ?_
  obtain ⟨v3, Y1, hv2, h⟩ := bd_some h
  refine w_cS1 k222 (sn_166 _ _ _ _ _ hv2) rfl (st := []) rfl ?_ (fun _ _ q => q.elim)
  obtain ⟨hc4, h⟩ := ck_some h
  obtain rfl := Option.some.inj h
  exact w_zreturn k222 (bz_or hc4) ⟨rfl, rfl⟩
set_option maxRecDepth 20000 in
set_option maxHeartbeats 4000000 in
/-- BallotBusModel.puts -/
theorem sn_223 (a1 : Int32) (a2 : Int32) {Y : Sm} (v : Int32) (Z : Sm) (h : fn_223 a1 a2 Y = some (v, Z)) : Mt 6 0 223 [aR 48 0, aI a1, aI a2] Y (Rt (some (aI v)) Z) nX := by
  refine Mt_of [(0, aR 48 0), (1, aI a1), (2, aI a2)] ?_
  generalize ho : (v, Z) = o at h
  have hv9 : v = o.1 := congrArg Prod.fst ho
  have hZ9 : Z = o.2 := congrArg Prod.snd ho
  clear ho
  subst hv9 hZ9
  unfold fn_223 at h
  refine w_sg k223 1 (pc' := 1) (ls' := [(0, aR 48 0), (1, aI a1), (2, aI a2)]) (st' := [aR 48 0]) (cs' := []) (fun _ => rfl) al0 ?_
  obtain ⟨_, Y1, hv2, h⟩ := bd_some h
  refine w_cV0 k223 (sn_171  _ _ hv2) rfl (st := []) rfl ?_ (fun _ _ q => q.elim)
  obtain ⟨hc3, h⟩ := ck_some h
  refine w_sg k223 5 (pc' := 11) (ls' := [(0, aR 48 0), (1, aI a1), (2, aI a2), (3, aI (gI Y1.1 52 0 (ix a1)))]) (st' := []) (cs' := [vp_in a1 718]) (fun _ => rfl) (al1 (vin hc3)) ?_
  refine w_sw k223 5 (Z := (sI Y1 52 0 (ix a1) a2)) (pc' := 18) (ls' := [(0, aR 48 0), (1, aI a1), (2, aI a2), (3, aI (gI Y1.1 52 0 (ix a1)))]) (st' := []) (cs' := [vp_in a1 718, allw 52 0]) (fun _ => rfl) rfl (al2 (vin hc3) (al1 rfl)) ?_
  replace h := wr_some h
  generalize (sI Y1 52 0 (ix a1) a2) = Y4 at h ⊢
  refine w_sg k223 2 (pc' := 20) (ls' := [(0, aR 48 0), (1, aI a1), (2, aI a2), (3, aI (gI Y1.1 52 0 (ix a1)))]) (st' := [aI (gI Y1.1 52 0 (ix a1)), aR 48 0]) (cs' := []) (fun _ => rfl) al0 ?_
  obtain ⟨v7, Y5, hv6, h⟩ := bd_some h
  refine w_cV1 k223 (sn_172 _ _ _ hv6) rfl (st := []) rfl ?_ (fun _ _ q => q.elim)
  obtain rfl := Option.some.inj h
  exact w_ireturn k223 ⟨rfl, rfl⟩
set_option maxRecDepth 20000 in
set_option maxHeartbeats 4000000 in
/-- BallotBusModel.setTally -/
theorem sn_224 (a1 : Int32) {Y : Sm} (v : Int32) (Z : Sm) (h : fn_224 a1 Y = some (v, Z)) : Mt 7 0 224 [aR 48 0, aI a1] Y (Rt (some (aI v)) Z) nX := by
  refine Mt_of [(0, aR 48 0), (1, aI a1)] ?_
  generalize ho : (v, Z) = o at h
  have hv9 : v = o.1 := congrArg Prod.fst ho
  have hZ9 : Z = o.2 := congrArg Prod.snd ho
  clear ho
  subst hv9 hZ9
  unfold fn_224 at h
  refine w_sg k224 2 (pc' := 2) (ls' := [(0, aR 48 0), (1, aI a1)]) (st' := [aI a1, aR 48 0]) (cs' := []) (fun _ => rfl) al0 ?_
  obtain ⟨v3, Y1, hv2, h⟩ := bd_some h
  refine w_cS1 k224 (sn_222 _ _ _ hv2) rfl (st := [aR 48 0]) rfl ?_ (fun _ _ q => q.elim)
  obtain ⟨v6, Y4, hv5, h⟩ := bd_some h
  refine w_cV1 k224 (sn_164 _ _ _ hv5) rfl (st := []) rfl ?_ (fun _ _ q => q.elim)
  refine w_if_eq k224 rfl (fun c => ?_) (fun c => ?_)
  · replace h := if_t c h
    refine w_sg k224 1 (pc' := 21) (ls' := [(0, aR 48 0), (1, aI a1)]) (st' := [aI (nI 0)]) (cs' := []) (fun _ => rfl) al0 ?_
    obtain rfl := Option.some.inj h
    exact w_ireturn k224 ⟨rfl, rfl⟩
  · replace h := if_f c h
    refine w_sg k224 3 (pc' := 14) (ls' := [(0, aR 48 0), (1, aI a1)]) (st' := [aI a1, aI (nI 1), aR 48 0]) (cs' := []) (fun _ => rfl) al0 ?_
    obtain ⟨v9, Y7, hv8, h⟩ := bd_some h
    refine w_cV1 k224 (sn_223 _ _ _ _ hv8) rfl (st := []) rfl ?_ (fun _ _ q => q.elim)
    refine w_sg k224 1 (pc' := 21) (ls' := [(0, aR 48 0), (1, aI a1)]) (st' := [aI v9]) (cs' := []) (fun _ => rfl) al0 ?_
    obtain rfl := Option.some.inj h
    exact w_ireturn k224 ⟨rfl, rfl⟩
