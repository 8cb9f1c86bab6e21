/-! the code of the methods does what their functions say (printed by wip/whole/gen20.py) -/
set_option maxRecDepth 20000 in
set_option maxHeartbeats 4000000 in
/-- BallotBus$Poll.countVotes -/
theorem sn_25 (i1 : Nat) (a2 : Int32) {Y : Sm} (v : Unit) (Z : Sm) (h : fn_25 i1 a2 Y = some (v, Z)) : Mt 5 0 25 [aR 39 0, aR 21 i1, aI a2] Y (Rt none Z) nX := by
  refine Mt_of [(0, aR 39 0), (1, aR 21 i1), (2, aI a2)] ?_
  generalize ho : (v, Z) = o at h
  have hv9 : v = o.1 := congrArg Prod.fst ho
  have hZ9 : Z = o.2 := congrArg Prod.snd ho
  clear ho
  subst hv9 hZ9
  unfold fn_25 at h
  have L13_0 : ∀ (l1 : Nat) (l2 : Int32) (n : Nat) (l3 : Int32) (Y : Sm) (e6 : (Sm) ⊕ (Unit × Sm)), lp (fun s => fn_25_L13 l1 l2 s.1 s.2) n (l3, Y) = some e6 → (∀ s9 : (Sm), e6 = .inl s9 → Wm 5 0 25 0 62 [(0, aR 39 0)] [] s9 (Rt none o.2) nX) → (∀ r, e6 = .inr r → r = o) → Wm 5 0 25 0 13 [(0, aR 39 0), (1, aR 21 l1), (2, aI l2), (3, aI l3)] [] Y (Rt none o.2) nX := by
    intro l1 l2 n
    induction n with
    | zero => intro l3 Y e6 h; cases h
    | succ n ih5 =>
      intro l3 Y e6 h kE7 kR8
      obtain ⟨q3, h, hn4⟩ := lp_succ h
      replace h : fn_25_L13 l1 l2 l3 Y = some q3 := h
      unfold fn_25_L13 at h
      refine w_sg k25 4 (pc' := 21) (ls' := [(0, aR 39 0), (1, aR 21 l1), (2, aI l2), (3, aI l3)]) (st' := [aI (gI Y.1 5 (Y.2 (l1 + 3)) 3), aI l3]) (cs' := []) (fun _ => rfl) al0 ?_
      refine w_icmp_ge k25 rfl (fun c => ?_) (fun c => ?_)
      · replace h := if_t c h
        refine w_ls [(0, aR 39 0)] (lq_c rfl lq_n) ?_
        obtain rfl := Option.some.inj h
        obtain rfl := lpn_r hn4
        exact kE7 (Y) rfl
      · replace h := if_f c h
        refine w_sg k25 2 (pc' := 26) (ls' := [(0, aR 39 0), (1, aR 21 l1), (2, aI l2), (3, aI l3)]) (st' := [aI l2, aI l3]) (cs' := []) (fun _ => rfl) al0 ?_
        refine w_icmp_eq k25 rfl (fun c => ?_) (fun c => ?_)
        · replace h := if_t c h
          refine w_sg k25 1 (pc' := 59) (ls' := [(0, aR 39 0), (1, aR 21 l1), (2, aI l2), (3, aI (l3 + (nI 1)))]) (st' := []) (cs' := []) (fun _ => rfl) al0 ?_
          refine w_sg k25 1 (pc' := 13) (ls' := [(0, aR 39 0), (1, aR 21 l1), (2, aI l2), (3, aI (l3 + (nI 1)))]) (st' := []) (cs' := []) (fun _ => rfl) al0 ?_
          refine w_ls [(0, aR 39 0), (1, aR 21 l1), (2, aI l2), (3, aI (l3 + (nI 1)))] (lq_c rfl (lq_c rfl (lq_c rfl (lq_c rfl lq_n)))) ?_
          obtain rfl := Option.some.inj h
          exact ih5 _ _ _ (lpn_l hn4) kE7 kR8
        · replace h := if_f c h
          refine w_sg k25 2 (pc' := 31) (ls' := [(0, aR 39 0), (1, aR 21 l1), (2, aI l2), (3, aI l3)]) (st' := [aI l3, aR 21 l1]) (cs' := []) (fun _ => rfl) al0 ?_
          obtain ⟨v11, Y9, hv10, h⟩ := bd_some h
          refine w_cV1 k25 (sn_73 _ _ _ _ hv10) rfl (st := []) rfl ?_ (fun _ _ q => q.elim)
          refine w_if_eq k25 rfl (fun c => ?_) (fun c => ?_)
          · replace h := if_t c h
            refine w_sg k25 1 (pc' := 59) (ls' := [(0, aR 39 0), (1, aR 21 l1), (2, aI l2), (3, aI (l3 + (nI 1)))]) (st' := []) (cs' := []) (fun _ => rfl) al0 ?_
            refine w_sg k25 1 (pc' := 13) (ls' := [(0, aR 39 0), (1, aR 21 l1), (2, aI l2), (3, aI (l3 + (nI 1)))]) (st' := []) (cs' := []) (fun _ => rfl) al0 ?_
            refine w_ls [(0, aR 39 0), (1, aR 21 l1), (2, aI l2), (3, aI (l3 + (nI 1)))] (lq_c rfl (lq_c rfl (lq_c rfl (lq_c rfl lq_n)))) ?_
            obtain rfl := Option.some.inj h
            exact ih5 _ _ _ (lpn_l hn4) kE7 kR8
          · replace h := if_f c h
            obtain ⟨hc12, h⟩ := ck_some h
            refine w_sg k25 5 (pc' := 44) (ls' := [(0, aR 39 0), (1, aR 21 l1), (2, aI l2), (3, aI l3)]) (st' := [aR 27 (8 * l1 + ix l3), aR 39 0]) (cs' := [vp_in l3 8]) (fun _ => rfl) (al1 (vin hc12)) ?_
            refine w_sg k25 5 (pc' := 53) (ls' := [(0, aR 39 0), (1, aR 21 l1), (2, aI l2), (3, aI l3)]) (st' := [aI (gI Y9.1 10 (Y9.2 (l1 + 3)) (ix l3)), aR 27 (8 * l1 + ix l3), aR 39 0]) (cs' := [vp_in l3 8]) (fun _ => rfl) (al1 (vin hc12)) ?_
            obtain ⟨_, Y13, hv14, h⟩ := bd_some h
            refine w_cV0 k25 (sn_27 _ _ _ _ hv14) rfl (st := []) rfl ?_ (fun _ _ q => q.elim)
            refine w_sg k25 1 (pc' := 59) (ls' := [(0, aR 39 0), (1, aR 21 l1), (2, aI l2), (3, aI (l3 + (nI 1)))]) (st' := []) (cs' := []) (fun _ => rfl) al0 ?_
            refine w_sg k25 1 (pc' := 13) (ls' := [(0, aR 39 0), (1, aR 21 l1), (2, aI l2), (3, aI (l3 + (nI 1)))]) (st' := []) (cs' := []) (fun _ => rfl) al0 ?_
            refine w_ls [(0, aR 39 0), (1, aR 21 l1), (2, aI l2), (3, aI (l3 + (nI 1)))] (lq_c rfl (lq_c rfl (lq_c rfl (lq_c rfl lq_n)))) ?_
            obtain rfl := Option.some.inj h
            exact ih5 _ _ _ (lpn_l hn4) kE7 kR8
  have L64_0 : ∀ (n : Nat) (l3 : Int32) (Y : Sm), lp (fun s => fn_25_L64 s.1 s.2) n (l3, Y) = some o → Wm 5 0 25 0 64 [(0, aR 39 0), (3, aI l3)] [] Y (Rt none o.2) nX := by
    intro n
    induction n with
    | zero => intro l3 Y h; cases h
    | succ n ih17 =>
      intro l3 Y h
      obtain ⟨q15, h, hn16⟩ := lp_succ h
      replace h : fn_25_L64 l3 Y = some q15 := h
      unfold fn_25_L64 at h
      have L75_0 : ∀ (l3 : Int32) (n : Nat) (l4 : Int32) (Y : Sm), lp (fun s => fn_25_L75_d1 l3 s.1 s.2) n (l4, Y) = some q15 → Wm 5 0 25 0 75 [(0, aR 39 0), (3, aI l3), (4, aI l4)] [] Y (Rt none o.2) nX := by
        intro l3 n
        induction n with
        | zero => intro l4 Y h; cases h
        | succ n ih20 =>
          intro l4 Y h
          obtain ⟨q18, h, hn19⟩ := lp_succ h
          replace h : fn_25_L75_d1 l3 l4 Y = some q18 := h
          unfold fn_25_L75_d1 at h
          refine w_sg k25 3 (pc' := 81) (ls' := [(0, aR 39 0), (3, aI l3), (4, aI l4)]) (st' := [aI (gI Y.1 39 0 0), aI l4]) (cs' := []) (fun _ => rfl) al0 ?_
          refine w_icmp_ge k25 rfl (fun c => ?_) (fun c => ?_)
          · replace h := if_t c h
            refine w_sg k25 1 (pc' := 113) (ls' := [(0, aR 39 0), (3, aI (l3 + (nI 1))), (4, aI l4)]) (st' := []) (cs' := []) (fun _ => rfl) al0 ?_
            refine w_sg k25 1 (pc' := 64) (ls' := [(0, aR 39 0), (3, aI (l3 + (nI 1))), (4, aI l4)]) (st' := []) (cs' := []) (fun _ => rfl) al0 ?_
            refine w_ls [(0, aR 39 0), (3, aI (l3 + (nI 1)))] (lq_c rfl (lq_c rfl lq_n)) ?_
            obtain rfl := Option.some.inj h
            obtain rfl := lpn_r hn19
            exact ih17 _ _ (lpn_l hn16)
          · replace h := if_f c h
            refine w_sg k25 3 (pc' := 88) (ls' := [(0, aR 39 0), (3, aI l3), (4, aI l4)]) (st' := [aI l4, aI l3, aR 39 0]) (cs' := []) (fun _ => rfl) al0 ?_
            obtain ⟨v23, Y21, hv22, h⟩ := bd_some h
            refine w_cV1 k25 (sn_28 _ _ _ _ hv22) rfl (st := []) rfl ?_ (fun _ _ q => q.elim)
            refine w_if_eq k25 rfl (fun c => ?_) (fun c => ?_)
            · replace h := if_t c h
              refine w_sg k25 1 (pc' := 107) (ls' := [(0, aR 39 0), (3, aI l3), (4, aI (l4 + (nI 1)))]) (st' := []) (cs' := []) (fun _ => rfl) al0 ?_
              refine w_sg k25 1 (pc' := 75) (ls' := [(0, aR 39 0), (3, aI l3), (4, aI (l4 + (nI 1)))]) (st' := []) (cs' := []) (fun _ => rfl) al0 ?_
              refine w_ls [(0, aR 39 0), (3, aI l3), (4, aI (l4 + (nI 1)))] (lq_c rfl (lq_c rfl (lq_c rfl lq_n))) ?_
              obtain rfl := Option.some.inj h
              exact ih20 _ _ (lpn_l hn19)
            · replace h := if_f c h
              obtain ⟨hc24, h⟩ := ck_some h
              refine w_sw k25 8 (Z := (sI Y21 41 0 (ix l3) ((gI Y21.1 41 0 (ix l3)) + (nI 1)))) (pc' := 104) (ls' := [(0, aR 39 0), (3, aI l3), (4, aI l4)]) (st' := []) (cs' := [vp_in l3 5, vp_in l3 5, allw 41 0]) (fun _ => rfl) rfl (al2 (vin hc24) (al2 (vin hc24) (al1 rfl))) ?_
              replace h := wr_some h
              generalize (sI Y21 41 0 (ix l3) ((gI Y21.1 41 0 (ix l3)) + (nI 1))) = Y25 at h ⊢
              refine w_sg k25 1 (pc' := 107) (ls' := [(0, aR 39 0), (3, aI l3), (4, aI (l4 + (nI 1)))]) (st' := []) (cs' := []) (fun _ => rfl) al0 ?_
              refine w_sg k25 1 (pc' := 75) (ls' := [(0, aR 39 0), (3, aI l3), (4, aI (l4 + (nI 1)))]) (st' := []) (cs' := []) (fun _ => rfl) al0 ?_
              refine w_ls [(0, aR 39 0), (3, aI l3), (4, aI (l4 + (nI 1)))] (lq_c rfl (lq_c rfl (lq_c rfl lq_n))) ?_
              obtain rfl := Option.some.inj h
              exact ih20 _ _ (lpn_l hn19)
      refine w_sg k25 3 (pc' := 69) (ls' := [(0, aR 39 0), (3, aI l3)]) (st' := [aI (gI Y.1 39 0 0), aI l3]) (cs' := []) (fun _ => rfl) al0 ?_
      refine w_icmp_ge k25 rfl (fun c => ?_) (fun c => ?_)
      · replace h := if_t c h
        obtain rfl := Option.some.inj h
        obtain rfl := lpn_r hn16
        exact w_return k25 ⟨rfl, rfl⟩
      · replace h := if_f c h
        refine w_sg k25 2 (pc' := 75) (ls' := [(0, aR 39 0), (3, aI l3), (4, aI (nI 0))]) (st' := []) (cs' := []) (fun _ => rfl) al0 ?_
        refine w_ls [(0, aR 39 0), (3, aI l3), (4, aI (nI 0))] (lq_c rfl (lq_c rfl (lq_c rfl lq_n))) ?_
        exact L75_0 _ _ _ _ h
  have J62_0 : ∀ (Y : Sm), fn_25_J62 Y = some o → Wm 5 0 25 0 62 [(0, aR 39 0)] [] Y (Rt none o.2) nX := by
    intro Y h
    unfold fn_25_J62 at h
    refine w_sg k25 2 (pc' := 64) (ls' := [(0, aR 39 0), (3, aI (nI 0))]) (st' := []) (cs' := []) (fun _ => rfl) al0 ?_
    refine w_ls [(0, aR 39 0), (3, aI (nI 0))] (lq_c rfl (lq_c rfl lq_n)) ?_
    exact L64_0 _ _ _ h
  refine w_sg k25 4 (pc' := 8) (ls' := [(0, aR 39 0), (1, aR 21 i1), (2, aI a2)]) (st' := [aI (gI Y.1 5 (Y.2 (i1 + 3)) 0), aR 39 0]) (cs' := []) (fun _ => rfl) al0 ?_
  obtain ⟨_, Y1, hv2, h⟩ := bd_some h
  refine w_cV0 k25 (sn_26 _ _ _ hv2) rfl (st := []) rfl ?_ (fun _ _ q => q.elim)
  refine w_sg k25 2 (pc' := 13) (ls' := [(0, aR 39 0), (1, aR 21 i1), (2, aI a2), (3, aI (nI 0))]) (st' := []) (cs' := []) (fun _ => rfl) al0 ?_
  obtain ⟨e28, hl26, hx27⟩ := exd_some h
  refine w_ls [(0, aR 39 0), (1, aR 21 i1), (2, aI a2), (3, aI (nI 0))] (lq_c rfl (lq_c rfl (lq_c rfl (lq_c rfl lq_n)))) ?_
  refine L13_0 _ _ _ _ _ e28 hl26 (fun s9 hs9 => ?_) (fun r9 hr9 => ?_)
  · subst hs9
    replace h : fn_25_J62 s9 = some o := hx27
    refine w_ls [(0, aR 39 0)] (lq_c rfl lq_n) ?_
    exact J62_0 _ h
  · subst hr9
    exact hx27
set_option maxRecDepth 20000 in
set_option maxHeartbeats 4000000 in
/-- BallotBus.points -/
theorem sn_119 (a1 : Int32) {Y : Sm} (v : (Int32 ⊕ Nat)) (Z : Sm) (h : fn_119 a1 Y = some (v, Z)) : Mt 7 1 119 [aR 0 0, aI a1] Y (Pz (fun v => some (aI v)) v Z) (Ez v Z) := by
  refine Mt_of [(0, aR 0 0), (1, aI a1)] ?_
  generalize ho : (v, Z) = o at h
  have hv9 : v = o.1 := congrArg Prod.fst ho
  have hZ9 : Z = o.2 := congrArg Prod.snd ho
  clear ho
  subst hv9 hZ9
  unfold fn_119 at h
  refine w_sg k119 2 (pc' := 2) (ls' := [(0, aR 0 0), (1, aI a1)]) (st' := [aI a1, aR 0 0]) (cs' := []) (fun _ => rfl) al0 ?_
  obtain ⟨o7, Y1, hv2, ⟨_, ho8, h⟩ | ⟨x6, ho8, h⟩⟩ := bx_some h
  · subst ho8
    refine w_cV0 k119 (sn_155 _ _ _ hv2) rfl (st := []) rfl ?_ (fun _ _ q => q.elim)
    refine w_sg k119 5 (pc' := 14) (ls' := [(0, aR 0 0), (1, aI a1)]) (st' := [aI (-1 : Int32), aR 21 0, aR 39 0]) (cs' := []) (fun _ => rfl) al0 ?_
    obtain ⟨_, Y3, hv4, h⟩ := bd_some h
    refine w_cV0 k119 (sn_25 _ _ _ _ hv4) rfl (st := []) rfl ?_ (fun _ _ q => q.elim)
    obtain ⟨hc5, h⟩ := ck_some h
    refine w_sg k119 5 (pc' := 26) (ls' := [(0, aR 0 0), (1, aI a1)]) (st' := [aI (gI Y3.1 40 0 (ix a1))]) (cs' := [vp_in a1 5]) (fun _ => rfl) (al1 (vin hc5)) ?_
    obtain rfl := Option.some.inj h
    exact w_ireturn k119 Pz_l
  · subst ho8
    obtain rfl := Option.some.inj h
    exact w_xcallV k119 (sn_155 _ _ _ hv2) rfl (st := []) rfl Ez_r
set_option maxRecDepth 20000 in
set_option maxHeartbeats 4000000 in
/-- BallotBus.wins -/
theorem sn_122 (a1 : Int32) {Y : Sm} (v : (Int32 ⊕ Nat)) (Z : Sm) (h : fn_122 a1 Y = some (v, Z)) : Mt 7 1 122 [aR 0 0, aI a1] Y (Pz (fun v => some (aI v)) v Z) (Ez v Z) := by
  refine Mt_of [(0, aR 0 0), (1, aI a1)] ?_
  generalize ho : (v, Z) = o at h
  have hv9 : v = o.1 := congrArg Prod.fst ho
  have hZ9 : Z = o.2 := congrArg Prod.snd ho
  clear ho
  subst hv9 hZ9
  unfold fn_122 at h
  refine w_sg k122 2 (pc' := 2) (ls' := [(0, aR 0 0), (1, aI a1)]) (st' := [aI a1, aR 0 0]) (cs' := []) (fun _ => rfl) al0 ?_
  obtain ⟨o7, Y1, hv2, ⟨_, ho8, h⟩ | ⟨x6, ho8, h⟩⟩ := bx_some h
  · subst ho8
    refine w_cV0 k122 (sn_155 _ _ _ hv2) rfl (st := []) rfl ?_ (fun _ _ q => q.elim)
    refine w_sg k122 5 (pc' := 14) (ls' := [(0, aR 0 0), (1, aI a1)]) (st' := [aI (-1 : Int32), aR 21 0, aR 39 0]) (cs' := []) (fun _ => rfl) al0 ?_
    obtain ⟨_, Y3, hv4, h⟩ := bd_some h
    refine w_cV0 k122 (sn_25 _ _ _ _ hv4) rfl (st := []) rfl ?_ (fun _ _ q => q.elim)
    obtain ⟨hc5, h⟩ := ck_some h
    refine w_sg k122 5 (pc' := 26) (ls' := [(0, aR 0 0), (1, aI a1)]) (st' := [aI (gI Y3.1 41 0 (ix a1))]) (cs' := [vp_in a1 5]) (fun _ => rfl) (al1 (vin hc5)) ?_
    obtain rfl := Option.some.inj h
    exact w_ireturn k122 Pz_l
  · subst ho8
    obtain rfl := Option.some.inj h
    exact w_xcallV k122 (sn_155 _ _ _ hv2) rfl (st := []) rfl Ez_r
set_option maxRecDepth 20000 in
set_option maxHeartbeats 4000000 in
/-- BallotBus.champion -/
theorem sn_123 {Y : Sm} (v : Int32) (Z : Sm) (h : fn_123 Y = some (v, Z)) : Mt 6 0 123 [aR 0 0] Y (Rt (some (aI v)) Z) nX := by
  refine Mt_of [(0, aR 0 0)] ?_
  generalize ho : (v, Z) = o at h
  have hv9 : v = o.1 := congrArg Prod.fst ho
  have hZ9 : Z = o.2 := congrArg Prod.snd ho
  clear ho
  subst hv9 hZ9
  unfold fn_123 at h
  have L26_0 : ∀ (n : Nat) (l1 : Int32) (Y : Sm), lp (fun s => fn_123_L26 s.1 s.2) n (l1, Y) = some o → Wm 6 0 123 0 26 [(0, aR 0 0), (1, aI l1)] [] Y (Rt (some (aI o.1)) o.2) nX := by
    intro n
    induction n with
    | zero => intro l1 Y h; cases h
    | succ n ih5 =>
      intro l1 Y h
      obtain ⟨q3, h, hn4⟩ := lp_succ h
      replace h : fn_123_L26 l1 Y = some q3 := h
      unfold fn_123_L26 at h
      refine w_sg k123 4 (pc' := 34) (ls' := [(0, aR 0 0), (1, aI l1)]) (st' := [aI (gI Y.1 5 (Y.2 0) 0), aI l1]) (cs' := []) (fun _ => rfl) al0 ?_
      refine w_icmp_ge k123 rfl (fun c => ?_) (fun c => ?_)
      · replace h := if_t c h
        refine w_sg k123 1 (pc' := 67) (ls' := [(0, aR 0 0), (1, aI l1)]) (st' := [aI (-1 : Int32)]) (cs' := []) (fun _ => rfl) al0 ?_
        obtain rfl := Option.some.inj h
        obtain rfl := lpn_r hn4
        exact w_ireturn k123 ⟨rfl, rfl⟩
      · replace h := if_f c h
        obtain ⟨hc6, h⟩ := ck_some h
        refine w_sg k123 8 (pc' := 53) (ls' := [(0, aR 0 0), (1, aI l1)]) (st' := [aI (gI Y.1 5 (Y.2 0) 0), aI (gI Y.1 41 0 (ix l1))]) (cs' := [vp_in l1 5]) (fun _ => rfl) (al1 (vin hc6)) ?_
        refine w_sg k123 2 (pc' := 55) (ls' := [(0, aR 0 0), (1, aI l1)]) (st' := [aI ((gI Y.1 5 (Y.2 0) 0) - (nI 1)), aI (gI Y.1 41 0 (ix l1))]) (cs' := []) (fun _ => rfl) al0 ?_
        refine w_icmp_ne k123 rfl (fun c => ?_) (fun c => ?_)
        · replace h := if_f c h
          refine w_sg k123 1 (pc' := 63) (ls' := [(0, aR 0 0), (1, aI (l1 + (nI 1)))]) (st' := []) (cs' := []) (fun _ => rfl) al0 ?_
          refine w_sg k123 1 (pc' := 26) (ls' := [(0, aR 0 0), (1, aI (l1 + (nI 1)))]) (st' := []) (cs' := []) (fun _ => rfl) al0 ?_
          refine w_ls [(0, aR 0 0), (1, aI (l1 + (nI 1)))] (lq_c rfl (lq_c rfl lq_n)) ?_
          obtain rfl := Option.some.inj h
          exact ih5 _ _ (lpn_l hn4)
        · replace h := if_t c h
          refine w_sg k123 1 (pc' := 59) (ls' := [(0, aR 0 0), (1, aI l1)]) (st' := [aI l1]) (cs' := []) (fun _ => rfl) al0 ?_
          obtain rfl := Option.some.inj h
          obtain rfl := lpn_r hn4
          exact w_ireturn k123 ⟨rfl, rfl⟩
  refine w_sg k123 5 (pc' := 9) (ls' := [(0, aR 0 0)]) (st' := [aI (-1 : Int32), aR 21 0, aR 39 0]) (cs' := []) (fun _ => rfl) al0 ?_
  obtain ⟨_, Y1, hv2, h⟩ := bd_some h
  refine w_cV0 k123 (sn_25 _ _ _ _ hv2) rfl (st := []) rfl ?_ (fun _ _ q => q.elim)
  refine w_sg k123 3 (pc' := 19) (ls' := [(0, aR 0 0)]) (st' := [aI (gI Y1.1 39 0 1)]) (cs' := []) (fun _ => rfl) al0 ?_
  refine w_if_ne k123 rfl (fun c => ?_) (fun c => ?_)
  · replace h := if_f c h
    refine w_sg k123 2 (pc' := 26) (ls' := [(0, aR 0 0), (1, aI (nI 0))]) (st' := []) (cs' := []) (fun _ => rfl) al0 ?_
    refine w_ls [(0, aR 0 0), (1, aI (nI 0))] (lq_c rfl (lq_c rfl lq_n)) ?_
    exact L26_0 _ _ _ h
  · replace h := if_t c h
    refine w_sg k123 1 (pc' := 23) (ls' := [(0, aR 0 0)]) (st' := [aI (-1 : Int32)]) (cs' := []) (fun _ => rfl) al0 ?_
    obtain rfl := Option.some.inj h
    exact w_ireturn k123 ⟨rfl, rfl⟩
set_option maxRecDepth 20000 in
set_option maxHeartbeats 4000000 in
/-- BallotBus.checkTally -/
theorem sn_156 (a1 : Int32) {Y : Sm} (v : (Unit ⊕ Nat)) (Z : Sm) (h : fn_156 a1 Y = some (v, Z)) : Mt 6 1 156 [aR 0 0, aI a1] Y (Pz (fun _ => none) v Z) (Ez v Z) := by
  refine Mt_of [(0, aR 0 0), (1, aI a1)] ?_
  generalize ho : (v, Z) = o at h
  have hv9 : v = o.1 := congrArg Prod.fst ho
  have hZ9 : Z = o.2 := congrArg Prod.snd ho
  clear ho
  subst hv9 hZ9
  unfold fn_156 at h
  refine w_sg k156 1 (pc' := 1) (ls' := [(0, aR 0 0), (1, aI a1)]) (st' := [aI a1]) (cs' := []) (fun _ => rfl) al0 ?_
  refine w_if_lt k156 rfl (fun c => ?_) (fun c => ?_)
  · replace h := if_t c h
    obtain rfl := Option.some.inj h
    exact w_throw k156 rfl rfl Ez_r
  · replace h := if_f c h
    refine w_sg k156 2 (pc' := 6) (ls' := [(0, aR 0 0), (1, aI a1)]) (st' := [aI (nI 2), aI a1]) (cs' := []) (fun _ => rfl) al0 ?_
    refine w_icmp_le k156 rfl (fun c => ?_) (fun c => ?_)
    · replace h := if_t c h
      obtain rfl := Option.some.inj h
      exact w_return k156 Pz_l
    · replace h := if_f c h
      obtain rfl := Option.some.inj h
      exact w_throw k156 rfl rfl Ez_r
set_option maxRecDepth 20000 in
set_option maxHeartbeats 4000000 in
/-- BallotBus$Rows.copy -/
theorem sn_44_22_46 (i0 : Nat) {Y : Sm} (v : Unit) (Z : Sm) (h : fn_44_22_46 i0 Y = some (v, Z)) : Mt 4 0 44 [aR 22 i0, aR 46 0] Y (Rt none Z) nX := by
  refine Mt_of [(0, aR 22 i0), (1, aR 46 0)] ?_
  generalize ho : (v, Z) = o at h
  have hv9 : v = o.1 := congrArg Prod.fst ho
  have hZ9 : Z = o.2 := congrArg Prod.snd ho
  clear ho
  subst hv9 hZ9
  unfold fn_44_22_46 at h
  refine w_sg k44 8 (pc' := 8) (ls' := [(0, aR 22 i0), (1, aR 46 0)]) (st' := [aI (nI 5), aI (nI 5), aI (nI 0), aR 46 0, aI (nI 0), aR 22 i0]) (cs' := []) (fun _ => rfl) al0 ?_
  refine w_sw k44 2 (Z := (sC Y 22 i0 0 46 0 0 5)) (pc' := 14) (ls' := [(0, aR 22 i0), (1, aR 46 0)]) (st' := []) (cs' := [¬ (nI 0) < 0, ¬ (nI 0) < 0, ¬ (nI 5) < 0, 0 + 5 ≤ 5, 0 + 5 ≤ 5, allw 46 0]) (fun _ => rfl) rfl (al2 (by decide) (al2 (by decide) (al2 (by decide) (al2 (by decide) (al2 (by decide) (al1 rfl)))))) ?_
  replace h := wr_some h
  generalize (sC Y 22 i0 0 46 0 0 5) = Y1 at h ⊢
  obtain rfl := Option.some.inj h
  exact w_return k44 ⟨rfl, rfl⟩
set_option maxRecDepth 20000 in
set_option maxHeartbeats 4000000 in
/-- BallotBus$Poll.hasMoreFirsts -/
theorem sn_32 (a1 : Int32) (a2 : Int32) {Y : Sm} (v : Int32) (Z : Sm) (h : fn_32 a1 a2 Y = some (v, Z)) : Mt 4 0 32 [aR 39 0, aI a1, aI a2] Y (Rt (some (aI v)) Z) nX := by
  refine Mt_of [(0, aR 39 0), (1, aI a1), (2, aI a2)] ?_
  generalize ho : (v, Z) = o at h
  have hv9 : v = o.1 := congrArg Prod.fst ho
  have hZ9 : Z = o.2 := congrArg Prod.snd ho
  clear ho
  subst hv9 hZ9
  unfold fn_32 at h
  have L2_0 : ∀ (l1 : Int32) (l2 : Int32) (n : Nat) (l3 : Int32) (Y : Sm) (e4 : (Int32 × Sm) ⊕ (Int32 × Sm)), lp (fun s => fn_32_L2 l1 l2 s.1 s.2) n (l3, Y) = some e4 → (∀ s9 : (Int32 × Sm), e4 = .inl s9 → Wm 4 0 32 0 29 [(0, aR 39 0), (1, aI l1), (2, aI l2), (3, aI s9.1)] [] s9.2 (Rt (some (aI o.1)) o.2) nX) → (∀ r, e4 = .inr r → r = o) → Wm 4 0 32 0 2 [(0, aR 39 0), (1, aI l1), (2, aI l2), (3, aI l3)] [] Y (Rt (some (aI o.1)) o.2) nX := by
    intro l1 l2 n
    induction n with
    | zero => intro l3 Y e4 h; cases h
    | succ n ih3 =>
      intro l3 Y e4 h kE5 kR6
      obtain ⟨q1, h, hn2⟩ := lp_succ h
      replace h : fn_32_L2 l1 l2 l3 Y = some q1 := h
      unfold fn_32_L2 at h
      refine w_sg k32 3 (pc' := 7) (ls' := [(0, aR 39 0), (1, aI l1), (2, aI l2), (3, aI l3)]) (st' := [aI (gI Y.1 39 0 0), aI l3]) (cs' := []) (fun _ => rfl) al0 ?_
      refine w_icmp_ge k32 rfl (fun c => ?_) (fun c => ?_)
      · replace h := if_t c h
        refine w_sg k32 1 (pc' := 61) (ls' := [(0, aR 39 0), (1, aI l1), (2, aI l2), (3, aI l3)]) (st' := [aI (nI 0)]) (cs' := []) (fun _ => rfl) al0 ?_
        obtain rfl := Option.some.inj h
        obtain rfl := lpn_r hn2
        obtain rfl := kR6 _ rfl
        exact w_zreturn k32 (Or.inl rfl) ⟨rfl, rfl⟩
      · replace h := if_f c h
        obtain ⟨hc7, h⟩ := ck_some h
        refine w_sg k32 4 (pc' := 16) (ls' := [(0, aR 39 0), (1, aI l1), (2, aI l2), (3, aI l3)]) (st' := [aR 43 (ix l1)]) (cs' := [vp_in l1 5]) (fun _ => rfl) (al1 (vin hc7)) ?_
        obtain ⟨hc8, h⟩ := ck_some h
        obtain ⟨hc9, h⟩ := ck_some h
        refine w_sg k32 6 (pc' := 24) (ls' := [(0, aR 39 0), (1, aI l1), (2, aI l2), (3, aI l3)]) (st' := [aR 43 (ix l2), aI (gI Y.1 43 (ix l1) (ix l3))]) (cs' := [vp_in l3 5, vp_in l2 5]) (fun _ => rfl) (al2 (vin hc8) (al1 (vin hc9))) ?_
        refine w_sg k32 2 (pc' := 26) (ls' := [(0, aR 39 0), (1, aI l1), (2, aI l2), (3, aI l3)]) (st' := [aI (gI Y.1 43 (ix l2) (ix l3)), aI (gI Y.1 43 (ix l1) (ix l3))]) (cs' := [vp_in l3 5]) (fun _ => rfl) (al1 (vin hc8)) ?_
        refine w_icmp_eq k32 rfl (fun c => ?_) (fun c => ?_)
        · replace h := if_t c h
          refine w_sg k32 1 (pc' := 57) (ls' := [(0, aR 39 0), (1, aI l1), (2, aI l2), (3, aI (l3 + (nI 1)))]) (st' := []) (cs' := []) (fun _ => rfl) al0 ?_
          refine w_sg k32 1 (pc' := 2) (ls' := [(0, aR 39 0), (1, aI l1), (2, aI l2), (3, aI (l3 + (nI 1)))]) (st' := []) (cs' := []) (fun _ => rfl) al0 ?_
          refine w_ls [(0, aR 39 0), (1, aI l1), (2, aI l2), (3, aI (l3 + (nI 1)))] (lq_c rfl (lq_c rfl (lq_c rfl (lq_c rfl lq_n)))) ?_
          obtain rfl := Option.some.inj h
          exact ih3 _ _ _ (lpn_l hn2) kE5 kR6
        · replace h := if_f c h
          refine w_ls [(0, aR 39 0), (1, aI l1), (2, aI l2), (3, aI l3)] (lq_c rfl (lq_c rfl (lq_c rfl (lq_c rfl lq_n)))) ?_
          obtain rfl := Option.some.inj h
          obtain rfl := lpn_r hn2
          exact kE5 (l3, Y) rfl
  have J29_0 : ∀ (l1 : Int32) (l2 : Int32) (l3 : Int32) (Y : Sm), fn_32_J29 l1 l2 l3 Y = some o → Wm 4 0 32 0 29 [(0, aR 39 0), (1, aI l1), (2, aI l2), (3, aI l3)] [] Y (Rt (some (aI o.1)) o.2) nX := by
    intro l1 l2 l3 Y h
    unfold fn_32_J29 at h
    obtain ⟨hc10, h⟩ := ck_some h
    refine w_sg k32 4 (pc' := 35) (ls' := [(0, aR 39 0), (1, aI l1), (2, aI l2), (3, aI l3)]) (st' := [aR 43 (ix l1)]) (cs' := [vp_in l1 5]) (fun _ => rfl) (al1 (vin hc10)) ?_
    obtain ⟨hc11, h⟩ := ck_some h
    obtain ⟨hc12, h⟩ := ck_some h
    refine w_sg k32 6 (pc' := 43) (ls' := [(0, aR 39 0), (1, aI l1), (2, aI l2), (3, aI l3)]) (st' := [aR 43 (ix l2), aI (gI Y.1 43 (ix l1) (ix l3))]) (cs' := [vp_in l3 5, vp_in l2 5]) (fun _ => rfl) (al2 (vin hc11) (al1 (vin hc12))) ?_
    refine w_sg k32 2 (pc' := 45) (ls' := [(0, aR 39 0), (1, aI l1), (2, aI l2), (3, aI l3)]) (st' := [aI (gI Y.1 43 (ix l2) (ix l3)), aI (gI Y.1 43 (ix l1) (ix l3))]) (cs' := [vp_in l3 5]) (fun _ => rfl) (al1 (vin hc11)) ?_
    refine w_icmp_le k32 rfl (fun c => ?_) (fun c => ?_)
    · replace h := if_t c h
      refine w_sg k32 1 (pc' := 53) (ls' := [(0, aR 39 0), (1, aI l1), (2, aI l2), (3, aI l3)]) (st' := [aI (nI 0)]) (cs' := []) (fun _ => rfl) al0 ?_
      obtain rfl := Option.some.inj h
      exact w_zreturn k32 (Or.inl rfl) ⟨rfl, rfl⟩
    · replace h := if_f c h
      refine w_sg k32 2 (pc' := 53) (ls' := [(0, aR 39 0), (1, aI l1), (2, aI l2), (3, aI l3)]) (st' := [aI (nI 1)]) (cs' := []) (fun _ => rfl) al0 ?_
      obtain rfl := Option.some.inj h
      exact w_zreturn k32 (Or.inr rfl) ⟨rfl, rfl⟩
  refine w_sg k32 2 (pc' := 2) (ls' := [(0, aR 39 0), (1, aI a1), (2, aI a2), (3, aI (nI 0))]) (st' := []) (cs' := []) (fun _ => rfl) al0 ?_
  obtain ⟨e15, hl13, hx14⟩ := exd_some h
  refine w_ls [(0, aR 39 0), (1, aI a1), (2, aI a2), (3, aI (nI 0))] (lq_c rfl (lq_c rfl (lq_c rfl (lq_c rfl lq_n)))) ?_
  refine L2_0 _ _ _ _ _ e15 hl13 (fun s9 hs9 => ?_) (fun r9 hr9 => ?_)
  · subst hs9
    replace h : fn_32_J29 a1 a2 s9.1 s9.2 = some o := hx14
    refine w_ls [(0, aR 39 0), (1, aI a1), (2, aI a2), (3, aI s9.1)] (lq_c rfl (lq_c rfl (lq_c rfl (lq_c rfl lq_n)))) ?_
    exact J29_0 _ _ _ _ h
  · subst hr9
    exact hx14
set_option maxRecDepth 20000 in
set_option maxHeartbeats 4000000 in
/-- BallotBus$Poll.isAbove -/
theorem sn_31 (a1 : Int32) (a2 : Int32) (a3 : Int32) {Y : Sm} (v : Int32) (Z : Sm) (h : fn_31 a1 a2 a3 Y = some (v, Z)) : Mt 5 0 31 [aR 39 0, aI a1, aI a2, aI a3] Y (Rt (some (aI v)) Z) nX := by
  refine Mt_of [(0, aR 39 0), (1, aI a1), (2, aI a2), (3, aI a3)] ?_
  generalize ho : (v, Z) = o at h
  have hv9 : v = o.1 := congrArg Prod.fst ho
  have hZ9 : Z = o.2 := congrArg Prod.snd ho
  clear ho
  subst hv9 hZ9
  unfold fn_31 at h
  have J53_0 : ∀ (l1 : Int32) (l2 : Int32) (Y : Sm), fn_31_J53 l1 l2 Y = some o → Wm 5 0 31 0 53 [(0, aR 39 0), (1, aI l1), (2, aI l2)] [] Y (Rt (some (aI o.1)) o.2) nX := by
    intro l1 l2 Y h
    unfold fn_31_J53 at h
    obtain ⟨hc1, h⟩ := ck_some h
    obtain ⟨hc2, h⟩ := ck_some h
    refine w_sg k31 8 (pc' := 65) (ls' := [(0, aR 39 0), (1, aI l1), (2, aI l2)]) (st' := [aI (gI Y.1 40 0 (ix l2)), aI (gI Y.1 40 0 (ix l1))]) (cs' := [vp_in l1 5, vp_in l2 5]) (fun _ => rfl) (al2 (vin hc1) (al1 (vin hc2))) ?_
    refine w_icmp_le k31 rfl (fun c => ?_) (fun c => ?_)
    · replace h := if_t c h
      refine w_sg k31 1 (pc' := 73) (ls' := [(0, aR 39 0), (1, aI l1), (2, aI l2)]) (st' := [aI (nI 0)]) (cs' := []) (fun _ => rfl) al0 ?_
      obtain rfl := Option.some.inj h
      exact w_zreturn k31 (Or.inl rfl) ⟨rfl, rfl⟩
    · replace h := if_f c h
      refine w_sg k31 2 (pc' := 73) (ls' := [(0, aR 39 0), (1, aI l1), (2, aI l2)]) (st' := [aI (nI 1)]) (cs' := []) (fun _ => rfl) al0 ?_
      obtain rfl := Option.some.inj h
      exact w_zreturn k31 (Or.inr rfl) ⟨rfl, rfl⟩
  refine w_sg k31 2 (pc' := 2) (ls' := [(0, aR 39 0), (1, aI a1), (2, aI a2), (3, aI a3)]) (st' := [aI (nI 1), aI a3]) (cs' := []) (fun _ => rfl) al0 ?_
  refine w_icmp_ne k31 rfl (fun c => ?_) (fun c => ?_)
  · replace h := if_f c h
    refine w_sg k31 2 (pc' := 14) (ls' := [(0, aR 39 0), (1, aI a1), (2, aI a2), (3, aI a3)]) (st' := [aI (nI 2), aI a3]) (cs' := []) (fun _ => rfl) al0 ?_
    refine w_icmp_ne k31 rfl (fun c => ?_) (fun c => ?_)
    · replace h := if_f c h
      refine w_ls [(0, aR 39 0), (1, aI a1), (2, aI a2)] (lq_c rfl (lq_c rfl (lq_c rfl lq_n))) ?_
      exact J53_0 _ _ _ h
    · replace h := if_t c h
      obtain ⟨hc3, h⟩ := ck_some h
      obtain ⟨hc4, h⟩ := ck_some h
      refine w_sg k31 8 (pc' := 29) (ls' := [(0, aR 39 0), (1, aI a1), (2, aI a2), (3, aI a3)]) (st' := [aI (gI Y.1 41 0 (ix a2)), aI (gI Y.1 41 0 (ix a1))]) (cs' := [vp_in a1 5, vp_in a2 5]) (fun _ => rfl) (al2 (vin hc3) (al1 (vin hc4))) ?_
      refine w_icmp_eq k31 rfl (fun c => ?_) (fun c => ?_)
      · replace h := if_t c h
        refine w_ls [(0, aR 39 0), (1, aI a1), (2, aI a2)] (lq_c rfl (lq_c rfl (lq_c rfl lq_n))) ?_
        exact J53_0 _ _ _ h
      · replace h := if_f c h
        refine w_sg k31 8 (pc' := 44) (ls' := [(0, aR 39 0), (1, aI a1), (2, aI a2), (3, aI a3)]) (st' := [aI (gI Y.1 41 0 (ix a2)), aI (gI Y.1 41 0 (ix a1))]) (cs' := [vp_in a1 5, vp_in a2 5]) (fun _ => rfl) (al2 (vin hc3) (al1 (vin hc4))) ?_
        refine w_icmp_le k31 rfl (fun c => ?_) (fun c => ?_)
        · replace h := if_t c h
          refine w_sg k31 1 (pc' := 52) (ls' := [(0, aR 39 0), (1, aI a1), (2, aI a2), (3, aI a3)]) (st' := [aI (nI 0)]) (cs' := []) (fun _ => rfl) al0 ?_
          obtain rfl := Option.some.inj h
          exact w_zreturn k31 (Or.inl rfl) ⟨rfl, rfl⟩
        · replace h := if_f c h
          refine w_sg k31 2 (pc' := 52) (ls' := [(0, aR 39 0), (1, aI a1), (2, aI a2), (3, aI a3)]) (st' := [aI (nI 1)]) (cs' := []) (fun _ => rfl) al0 ?_
          obtain rfl := Option.some.inj h
          exact w_zreturn k31 (Or.inr rfl) ⟨rfl, rfl⟩
  · replace h := if_t c h
    refine w_sg k31 3 (pc' := 8) (ls' := [(0, aR 39 0), (1, aI a1), (2, aI a2), (3, aI a3)]) (st' := [aI a2, aI a1, aR 39 0]) (cs' := []) (fun _ => rfl) al0 ?_
    obtain ⟨v7, Y5, hv6, h⟩ := bd_some h
    refine w_cV1 k31 (sn_32 _ _ _ _ hv6) rfl (st := []) rfl ?_ (fun _ _ q => q.elim)
    obtain ⟨hc8, h⟩ := ck_some h
    obtain rfl := Option.some.inj h
    exact w_zreturn k31 (bz_or hc8) ⟨rfl, rfl⟩
set_option maxRecDepth 20000 in
set_option maxHeartbeats 4000000 in
/-- BallotBus$Poll.rank -/
theorem sn_30_39_46 (a1 : Int32) {Y : Sm} (v : Unit) (Z : Sm) (h : fn_30_39_46 a1 Y = some (v, Z)) : Mt 6 0 30 [aR 39 0, aI a1, aR 46 0] Y (Rt none Z) nX := by
  refine Mt_of [(0, aR 39 0), (1, aI a1), (2, aR 46 0)] ?_
  generalize ho : (v, Z) = o at h
  have hv9 : v = o.1 := congrArg Prod.fst ho
  have hZ9 : Z = o.2 := congrArg Prod.snd ho
  clear ho
  subst hv9 hZ9
  unfold fn_30_39_46 at h
  have L10_0 : ∀ (l1 : Int32) (n : Nat) (l3 : Int32) (Y : Sm), lp (fun s => fn_30_39_46_L10 l1 s.1 s.2) n (l3, Y) = some o → Wm 6 0 30 0 10 [(0, aR 39 0), (1, aI l1), (2, aR 46 0), (3, aI l3)] [] Y (Rt none o.2) nX := by
    intro l1 n
    induction n with
    | zero => intro l3 Y h; cases h
    | succ n ih3 =>
      intro l3 Y h
      obtain ⟨q1, h, hn2⟩ := lp_succ h
      replace h : fn_30_39_46_L10 l1 l3 Y = some q1 := h
      unfold fn_30_39_46_L10 at h
      have L21_0 : ∀ (l3 : Int32) (n : Nat) (l4 : Int32) (Y : Sm), lp (fun s => fn_30_39_46_L21_d1 l1 l3 s.1 s.2) n (l4, Y) = some q1 → Wm 6 0 30 0 21 [(0, aR 39 0), (1, aI l1), (2, aR 46 0), (3, aI l3), (4, aI l4)] [] Y (Rt none o.2) nX := by
        intro l3 n
        induction n with
        | zero => intro l4 Y h; cases h
        | succ n ih6 =>
          intro l4 Y h
          obtain ⟨q4, h, hn5⟩ := lp_succ h
          replace h : fn_30_39_46_L21_d1 l1 l3 l4 Y = some q4 := h
          unfold fn_30_39_46_L21_d1 at h
          refine w_sg k30 1 (pc' := 23) (ls' := [(0, aR 39 0), (1, aI l1), (2, aR 46 0), (3, aI l3), (4, aI l4)]) (st' := [aI l4]) (cs' := []) (fun _ => rfl) al0 ?_
          refine w_if_le k30 rfl (fun c => ?_) (fun c => ?_)
          · replace h := if_t c h
            obtain ⟨hc7, h⟩ := ck_some h
            refine w_sw k30 4 (Z := (sI Y 46 0 (ix l4) l3)) (pc' := 62) (ls' := [(0, aR 39 0), (1, aI l1), (2, aR 46 0), (3, aI l3), (4, aI l4)]) (st' := []) (cs' := [vp_in l4 5, allw 46 0]) (fun _ => rfl) rfl (al2 (vin hc7) (al1 rfl)) ?_
            replace h := wr_some h
            generalize (sI Y 46 0 (ix l4) l3) = Y8 at h ⊢
            refine w_sg k30 1 (pc' := 65) (ls' := [(0, aR 39 0), (1, aI l1), (2, aR 46 0), (3, aI (l3 + (nI 1))), (4, aI l4)]) (st' := []) (cs' := []) (fun _ => rfl) al0 ?_
            refine w_sg k30 1 (pc' := 10) (ls' := [(0, aR 39 0), (1, aI l1), (2, aR 46 0), (3, aI (l3 + (nI 1))), (4, aI l4)]) (st' := []) (cs' := []) (fun _ => rfl) al0 ?_
            refine w_ls [(0, aR 39 0), (1, aI l1), (2, aR 46 0), (3, aI (l3 + (nI 1)))] (lq_c rfl (lq_c rfl (lq_c rfl (lq_c rfl lq_n)))) ?_
            obtain rfl := Option.some.inj h
            obtain rfl := lpn_r hn5
            exact ih3 _ _ (lpn_l hn2)
          · replace h := if_f c h
            obtain ⟨hc9, h⟩ := ck_some h
            refine w_sg k30 8 (pc' := 35) (ls' := [(0, aR 39 0), (1, aI l1), (2, aR 46 0), (3, aI l3), (4, aI l4)]) (st' := [aI l1, aI (gI Y.1 46 0 (ix (l4 - (nI 1)))), aI l3, aR 39 0]) (cs' := [vp_in (l4 - (nI 1)) 5]) (fun _ => rfl) (al1 (vin hc9)) ?_
            obtain ⟨v12, Y10, hv11, h⟩ := bd_some h
            refine w_cV1 k30 (sn_31 _ _ _ _ _ hv11) rfl (st := []) rfl ?_ (fun _ _ q => q.elim)
            refine w_if_eq k30 rfl (fun c => ?_) (fun c => ?_)
            · replace h := if_t c h
              obtain ⟨hc13, h⟩ := ck_some h
              refine w_sw k30 4 (Z := (sI Y10 46 0 (ix l4) l3)) (pc' := 62) (ls' := [(0, aR 39 0), (1, aI l1), (2, aR 46 0), (3, aI l3), (4, aI l4)]) (st' := []) (cs' := [vp_in l4 5, allw 46 0]) (fun _ => rfl) rfl (al2 (vin hc13) (al1 rfl)) ?_
              replace h := wr_some h
              generalize (sI Y10 46 0 (ix l4) l3) = Y14 at h ⊢
              refine w_sg k30 1 (pc' := 65) (ls' := [(0, aR 39 0), (1, aI l1), (2, aR 46 0), (3, aI (l3 + (nI 1))), (4, aI l4)]) (st' := []) (cs' := []) (fun _ => rfl) al0 ?_
              refine w_sg k30 1 (pc' := 10) (ls' := [(0, aR 39 0), (1, aI l1), (2, aR 46 0), (3, aI (l3 + (nI 1))), (4, aI l4)]) (st' := []) (cs' := []) (fun _ => rfl) al0 ?_
              refine w_ls [(0, aR 39 0), (1, aI l1), (2, aR 46 0), (3, aI (l3 + (nI 1)))] (lq_c rfl (lq_c rfl (lq_c rfl (lq_c rfl lq_n)))) ?_
              obtain rfl := Option.some.inj h
              obtain rfl := lpn_r hn5
              exact ih3 _ _ (lpn_l hn2)
            · replace h := if_f c h
              obtain ⟨hc15, h⟩ := ck_some h
              refine w_sw k30 8 (Z := (sI Y10 46 0 (ix l4) (gI Y10.1 46 0 (ix (l4 - (nI 1)))))) (pc' := 51) (ls' := [(0, aR 39 0), (1, aI l1), (2, aR 46 0), (3, aI l3), (4, aI l4)]) (st' := []) (cs' := [vp_in (l4 - (nI 1)) 5, vp_in l4 5, allw 46 0]) (fun _ => rfl) rfl (al2 (vin hc9) (al2 (vin hc15) (al1 rfl))) ?_
              replace h := wr_some h
              generalize (sI Y10 46 0 (ix l4) (gI Y10.1 46 0 (ix (l4 - (nI 1))))) = Y16 at h ⊢
              refine w_sg k30 1 (pc' := 54) (ls' := [(0, aR 39 0), (1, aI l1), (2, aR 46 0), (3, aI l3), (4, aI (l4 + (-1 : Int32)))]) (st' := []) (cs' := []) (fun _ => rfl) al0 ?_
              refine w_sg k30 1 (pc' := 21) (ls' := [(0, aR 39 0), (1, aI l1), (2, aR 46 0), (3, aI l3), (4, aI (l4 + (-1 : Int32)))]) (st' := []) (cs' := []) (fun _ => rfl) al0 ?_
              refine w_ls [(0, aR 39 0), (1, aI l1), (2, aR 46 0), (3, aI l3), (4, aI (l4 + (-1 : Int32)))] (lq_c rfl (lq_c rfl (lq_c rfl (lq_c rfl (lq_c rfl lq_n))))) ?_
              obtain rfl := Option.some.inj h
              exact ih6 _ _ (lpn_l hn5)
      refine w_sg k30 3 (pc' := 15) (ls' := [(0, aR 39 0), (1, aI l1), (2, aR 46 0), (3, aI l3)]) (st' := [aI (gI Y.1 39 0 0), aI l3]) (cs' := []) (fun _ => rfl) al0 ?_
      refine w_icmp_ge k30 rfl (fun c => ?_) (fun c => ?_)
      · replace h := if_t c h
        obtain rfl := Option.some.inj h
        obtain rfl := lpn_r hn2
        exact w_return k30 ⟨rfl, rfl⟩
      · replace h := if_f c h
        refine w_sg k30 2 (pc' := 21) (ls' := [(0, aR 39 0), (1, aI l1), (2, aR 46 0), (3, aI l3), (4, aI l3)]) (st' := []) (cs' := []) (fun _ => rfl) al0 ?_
        refine w_ls [(0, aR 39 0), (1, aI l1), (2, aR 46 0), (3, aI l3), (4, aI l3)] (lq_c rfl (lq_c rfl (lq_c rfl (lq_c rfl (lq_c rfl lq_n))))) ?_
        exact L21_0 _ _ _ _ h
  refine w_sg k30 2 (pc' := 4) (ls' := [(0, aR 39 0), (1, aI a1), (2, aR 46 0)]) (st' := [aI (gI Y.1 39 0 1)]) (cs' := []) (fun _ => rfl) al0 ?_
  refine w_if_ne k30 rfl (fun c => ?_) (fun c => ?_)
  · replace h := if_f c h
    refine w_sg k30 2 (pc' := 10) (ls' := [(0, aR 39 0), (1, aI a1), (2, aR 46 0), (3, aI (nI 0))]) (st' := []) (cs' := []) (fun _ => rfl) al0 ?_
    refine w_ls [(0, aR 39 0), (1, aI a1), (2, aR 46 0), (3, aI (nI 0))] (lq_c rfl (lq_c rfl (lq_c rfl (lq_c rfl lq_n)))) ?_
    exact L10_0 _ _ _ _ h
  · replace h := if_t c h
    obtain rfl := Option.some.inj h
    exact w_return k30 ⟨rfl, rfl⟩
set_option maxRecDepth 20000 in
set_option maxHeartbeats 4000000 in
/-- BallotBus.voteNow -/
theorem sn_159_0_46 (a1 : Int32) (a2 : Int32) {Y : Sm} (v : Unit) (Z : Sm) (h : fn_159_0_46 a1 a2 Y = some (v, Z)) : Mt 7 0 159 [aR 0 0, aI a1, aI a2, aR 46 0] Y (Rt none Z) nX := by
  refine Mt_of [(0, aR 0 0), (1, aI a1), (2, aI a2), (3, aR 46 0)] ?_
  generalize ho : (v, Z) = o at h
  have hv9 : v = o.1 := congrArg Prod.fst ho
  have hZ9 : Z = o.2 := congrArg Prod.snd ho
  clear ho
  subst hv9 hZ9
  unfold fn_159_0_46 at h
  refine w_sg k159 5 (pc' := 9) (ls' := [(0, aR 0 0), (1, aI a1), (2, aI a2), (3, aR 46 0)]) (st' := [aI a2, aR 21 0, aR 39 0]) (cs' := []) (fun _ => rfl) al0 ?_
  obtain ⟨_, Y1, hv2, h⟩ := bd_some h
  refine w_cV0 k159 (sn_25 _ _ _ _ hv2) rfl (st := []) rfl ?_ (fun _ _ q => q.elim)
  refine w_sg k159 4 (pc' := 20) (ls' := [(0, aR 0 0), (1, aI a1), (2, aI a2), (3, aR 46 0)]) (st' := [aR 46 0, aR 22 0]) (cs' := []) (fun _ => rfl) al0 ?_
  obtain ⟨_, Y3, hv4, h⟩ := bd_some h
  refine w_cS0 k159 (sn_44_22_46 _ _ _ hv4) rfl (st := []) rfl ?_ (fun _ _ q => q.elim)
  refine w_sg k159 4 (pc' := 29) (ls' := [(0, aR 0 0), (1, aI a1), (2, aI a2), (3, aR 46 0)]) (st' := [aR 46 0, aI a1, aR 39 0]) (cs' := []) (fun _ => rfl) al0 ?_
  obtain ⟨_, Y5, hv6, h⟩ := bd_some h
  refine w_cV0 k159 (sn_30_39_46 _ _ _ hv6) rfl (st := []) rfl ?_ (fun _ _ q => q.elim)
  obtain rfl := Option.some.inj h
  exact w_return k159 ⟨rfl, rfl⟩
set_option maxRecDepth 20000 in
set_option maxHeartbeats 4000000 in
/-- BallotBus.voted -/
theorem sn_124 (a1 : Int32) (a2 : Int32) {Y : Sm} (v : (Int32 ⊕ Nat)) (Z : Sm) (h : fn_124 a1 a2 Y = some (v, Z)) : Mt 8 2 124 [aR 0 0, aI a1, aI a2] Y (Pz (fun v => some (aI v)) v Z) (Ez v Z) := by
  refine Mt_of [(0, aR 0 0), (1, aI a1), (2, aI a2)] ?_
  generalize ho : (v, Z) = o at h
  have hv9 : v = o.1 := congrArg Prod.fst ho
  have hZ9 : Z = o.2 := congrArg Prod.snd ho
  clear ho
  subst hv9 hZ9
  unfold fn_124 at h
  refine w_sg k124 2 (pc' := 2) (ls' := [(0, aR 0 0), (1, aI a1), (2, aI a2)]) (st' := [aI a2, aR 0 0]) (cs' := []) (fun _ => rfl) al0 ?_
  obtain ⟨o12, Y1, hv2, ⟨_, ho13, h⟩ | ⟨x11, ho13, h⟩⟩ := bx_some h
  · subst ho13
    refine w_cV0 k124 (sn_155 _ _ _ hv2) rfl (st := []) rfl ?_ (fun _ _ q => q.elim)
    refine w_sg k124 2 (pc' := 7) (ls' := [(0, aR 0 0), (1, aI a1), (2, aI a2)]) (st' := [aI a1, aR 0 0]) (cs' := []) (fun _ => rfl) al0 ?_
    obtain ⟨o9, Y3, hv4, ⟨_, ho10, h⟩ | ⟨x8, ho10, h⟩⟩ := bx_some h
    · subst ho10
      refine w_cV0 k124 (sn_156 _ _ _ hv4) rfl (st := []) rfl ?_ (fun _ _ q => q.elim)
      refine w_sg k124 5 (pc' := 17) (ls' := [(0, aR 0 0), (1, aI a1), (2, aI a2)]) (st' := [aR 46 0, aI (-1 : Int32), aI a1, aR 0 0]) (cs' := []) (fun _ => rfl) al0 ?_
      obtain ⟨_, Y5, hv6, h⟩ := bd_some h
      refine w_cV0 k124 (sn_159_0_46 _ _ _ _ hv6) rfl (st := []) rfl ?_ (fun _ _ q => q.elim)
      obtain ⟨hc7, h⟩ := ck_some h
      refine w_sg k124 4 (pc' := 26) (ls' := [(0, aR 0 0), (1, aI a1), (2, aI a2)]) (st' := [aI (gI Y5.1 46 0 (ix a2))]) (cs' := [vp_in a2 5]) (fun _ => rfl) (al1 (vin hc7)) ?_
      obtain rfl := Option.some.inj h
      exact w_ireturn k124 Pz_l
    · subst ho10
      obtain rfl := Option.some.inj h
      exact w_xcallV k124 (sn_156 _ _ _ hv4) rfl (st := []) rfl Ez_r
  · subst ho13
    obtain rfl := Option.some.inj h
    exact w_xcallV k124 (sn_155 _ _ _ hv2) rfl (st := []) rfl Ez_r
set_option maxRecDepth 20000 in
set_option maxHeartbeats 4000000 in
/-- BallotBus.debts -/
theorem sn_132 {Y : Sm} (v : Int32) (Z : Sm) (h : fn_132 Y = some (v, Z)) : Mt 4 0 132 [aR 0 0] Y (Rt (some (aI v)) Z) nX := by
  refine Mt_of [(0, aR 0 0)] ?_
  generalize ho : (v, Z) = o at h
  have hv9 : v = o.1 := congrArg Prod.fst ho
  have hZ9 : Z = o.2 := congrArg Prod.snd ho
  clear ho
  subst hv9 hZ9
  unfold fn_132 at h
  have L4_0 : ∀ (n : Nat) (l1 : Int32) (l2 : Int32) (Y : Sm), lp (fun s => fn_132_L4 s.1 s.2.1 s.2.2) n (l1, l2, Y) = some o → Wm 4 0 132 0 4 [(0, aR 0 0), (1, aI l1), (2, aI l2)] [] Y (Rt (some (aI o.1)) o.2) nX := by
    intro n
    induction n with
    | zero => intro l1 l2 Y h; cases h
    | succ n ih3 =>
      intro l1 l2 Y h
      obtain ⟨q1, h, hn2⟩ := lp_succ h
      replace h : fn_132_L4 l1 l2 Y = some q1 := h
      unfold fn_132_L4 at h
      refine w_sg k132 4 (pc' := 12) (ls' := [(0, aR 0 0), (1, aI l1), (2, aI l2)]) (st' := [aI (gI Y.1 5 (Y.2 0) 3), aI l2]) (cs' := []) (fun _ => rfl) al0 ?_
      refine w_icmp_ge k132 rfl (fun c => ?_) (fun c => ?_)
      · replace h := if_t c h
        refine w_sg k132 1 (pc' := 37) (ls' := [(0, aR 0 0), (1, aI l1), (2, aI l2)]) (st' := [aI l1]) (cs' := []) (fun _ => rfl) al0 ?_
        obtain rfl := Option.some.inj h
        obtain rfl := lpn_r hn2
        exact w_ireturn k132 ⟨rfl, rfl⟩
      · replace h := if_f c h
        obtain ⟨hc4, h⟩ := ck_some h
        refine w_sg k132 8 (pc' := 29) (ls' := [(0, aR 0 0), (1, aI l1), (2, aI l2)]) (st' := [aI (l1 + (gI Y.1 30 0 (ix l2)))]) (cs' := [vp_in l2 8]) (fun _ => rfl) (al1 (vin hc4)) ?_
        refine w_sg k132 1 (pc' := 30) (ls' := [(0, aR 0 0), (1, aI (l1 + (gI Y.1 30 0 (ix l2)))), (2, aI l2)]) (st' := []) (cs' := []) (fun _ => rfl) al0 ?_
        refine w_sg k132 1 (pc' := 33) (ls' := [(0, aR 0 0), (1, aI (l1 + (gI Y.1 30 0 (ix l2)))), (2, aI (l2 + (nI 1)))]) (st' := []) (cs' := []) (fun _ => rfl) al0 ?_
        refine w_sg k132 1 (pc' := 4) (ls' := [(0, aR 0 0), (1, aI (l1 + (gI Y.1 30 0 (ix l2)))), (2, aI (l2 + (nI 1)))]) (st' := []) (cs' := []) (fun _ => rfl) al0 ?_
        refine w_ls [(0, aR 0 0), (1, aI (l1 + (gI Y.1 30 0 (ix l2)))), (2, aI (l2 + (nI 1)))] (lq_c rfl (lq_c rfl (lq_c rfl lq_n))) ?_
        obtain rfl := Option.some.inj h
        exact ih3 _ _ _ (lpn_l hn2)
  refine w_sg k132 2 (pc' := 2) (ls' := [(0, aR 0 0), (1, aI (nI 0))]) (st' := []) (cs' := []) (fun _ => rfl) al0 ?_
  refine w_sg k132 2 (pc' := 4) (ls' := [(0, aR 0 0), (1, aI (nI 0)), (2, aI (nI 0))]) (st' := []) (cs' := []) (fun _ => rfl) al0 ?_
  refine w_ls [(0, aR 0 0), (1, aI (nI 0)), (2, aI (nI 0))] (lq_c rfl (lq_c rfl (lq_c rfl lq_n))) ?_
  exact L4_0 _ _ _ _ h
set_option maxRecDepth 20000 in
set_option maxHeartbeats 4000000 in
/-- BallotBus.checkTicks -/
theorem sn_157 (a1 : Int32) (a2 : Int32) {Y : Sm} (v : (Unit ⊕ Nat)) (Z : Sm) (h : fn_157 a1 a2 Y = some (v, Z)) : Mt 6 1 157 [aR 0 0, aI a1, aI a2] Y (Pz (fun _ => none) v Z) (Ez v Z) := by
  refine Mt_of [(0, aR 0 0), (1, aI a1), (2, aI a2)] ?_
  generalize ho : (v, Z) = o at h
  have hv9 : v = o.1 := congrArg Prod.fst ho
  have hZ9 : Z = o.2 := congrArg Prod.snd ho
  clear ho
  subst hv9 hZ9
  unfold fn_157 at h
  refine w_sg k157 2 (pc' := 2) (ls' := [(0, aR 0 0), (1, aI a1), (2, aI a2)]) (st' := [aI (nI 1), aI a1]) (cs' := []) (fun _ => rfl) al0 ?_
  refine w_icmp_lt k157 rfl (fun c => ?_) (fun c => ?_)
  · replace h := if_t c h
    obtain rfl := Option.some.inj h
    exact w_throw k157 rfl rfl Ez_r
  · replace h := if_f c h
    refine w_sg k157 2 (pc' := 7) (ls' := [(0, aR 0 0), (1, aI a1), (2, aI a2)]) (st' := [aI a2, aI a1]) (cs' := []) (fun _ => rfl) al0 ?_
    refine w_icmp_le k157 rfl (fun c => ?_) (fun c => ?_)
    · replace h := if_t c h
      obtain rfl := Option.some.inj h
      exact w_return k157 Pz_l
    · replace h := if_f c h
      obtain rfl := Option.some.inj h
      exact w_throw k157 rfl rfl Ez_r
set_option maxRecDepth 20000 in
set_option maxHeartbeats 4000000 in
/-- BallotBus$Rows.copy -/
theorem sn_44_22_22 (i0 : Nat) (i1 : Nat) {Y : Sm} (v : Unit) (Z : Sm) (h : fn_44_22_22 i0 i1 Y = some (v, Z)) : Mt 4 0 44 [aR 22 i0, aR 22 i1] Y (Rt none Z) nX := by
  refine Mt_of [(0, aR 22 i0), (1, aR 22 i1)] ?_
  generalize ho : (v, Z) = o at h
  have hv9 : v = o.1 := congrArg Prod.fst ho
  have hZ9 : Z = o.2 := congrArg Prod.snd ho
  clear ho
  subst hv9 hZ9
  unfold fn_44_22_22 at h
  refine w_sg k44 8 (pc' := 8) (ls' := [(0, aR 22 i0), (1, aR 22 i1)]) (st' := [aI (nI 5), aI (nI 5), aI (nI 0), aR 22 i1, aI (nI 0), aR 22 i0]) (cs' := []) (fun _ => rfl) al0 ?_
  refine w_sw k44 2 (Z := (sC Y 22 i0 0 22 i1 0 5)) (pc' := 14) (ls' := [(0, aR 22 i0), (1, aR 22 i1)]) (st' := []) (cs' := [¬ (nI 0) < 0, ¬ (nI 0) < 0, ¬ (nI 5) < 0, 0 + 5 ≤ 5, 0 + 5 ≤ 5, allw 22 i1]) (fun _ => rfl) rfl (al2 (by decide) (al2 (by decide) (al2 (by decide) (al2 (by decide) (al2 (by decide) (al1 rfl)))))) ?_
  replace h := wr_some h
  generalize (sC Y 22 i0 0 22 i1 0 5) = Y1 at h ⊢
  obtain rfl := Option.some.inj h
  exact w_return k44 ⟨rfl, rfl⟩
set_option maxRecDepth 20000 in
set_option maxHeartbeats 4000000 in
/-- BallotBus$Rows.copy -/
theorem sn_44_23_23 (i0 : Nat) (i1 : Nat) {Y : Sm} (v : Unit) (Z : Sm) (h : fn_44_23_23 i0 i1 Y = some (v, Z)) : Mt 4 0 44 [aR 23 i0, aR 23 i1] Y (Rt none Z) nX := by
  refine Mt_of [(0, aR 23 i0), (1, aR 23 i1)] ?_
  generalize ho : (v, Z) = o at h
  have hv9 : v = o.1 := congrArg Prod.fst ho
  have hZ9 : Z = o.2 := congrArg Prod.snd ho
  clear ho
  subst hv9 hZ9
  unfold fn_44_23_23 at h
  refine w_sg k44 8 (pc' := 8) (ls' := [(0, aR 23 i0), (1, aR 23 i1)]) (st' := [aI (nI 5), aI (nI 5), aI (nI 0), aR 23 i1, aI (nI 0), aR 23 i0]) (cs' := []) (fun _ => rfl) al0 ?_
  refine w_sw k44 2 (Z := (sC Y 23 i0 0 23 i1 0 5)) (pc' := 14) (ls' := [(0, aR 23 i0), (1, aR 23 i1)]) (st' := []) (cs' := [¬ (nI 0) < 0, ¬ (nI 0) < 0, ¬ (nI 5) < 0, 0 + 5 ≤ 5, 0 + 5 ≤ 5, allw 23 i1]) (fun _ => rfl) rfl (al2 (by decide) (al2 (by decide) (al2 (by decide) (al2 (by decide) (al2 (by decide) (al1 rfl)))))) ?_
  replace h := wr_some h
  generalize (sC Y 23 i0 0 23 i1 0 5) = Y1 at h ⊢
  obtain rfl := Option.some.inj h
  exact w_return k44 ⟨rfl, rfl⟩
set_option maxRecDepth 20000 in
set_option maxHeartbeats 4000000 in
/-- BallotBus$Rows.copy -/
theorem sn_44_24_24 (i0 : Nat) (i1 : Nat) {Y : Sm} (v : Unit) (Z : Sm) (h : fn_44_24_24 i0 i1 Y = some (v, Z)) : Mt 4 0 44 [aR 24 i0, aR 24 i1] Y (Rt none Z) nX := by
  refine Mt_of [(0, aR 24 i0), (1, aR 24 i1)] ?_
  generalize ho : (v, Z) = o at h
  have hv9 : v = o.1 := congrArg Prod.fst ho
  have hZ9 : Z = o.2 := congrArg Prod.snd ho
  clear ho
  subst hv9 hZ9
  unfold fn_44_24_24 at h
  refine w_sg k44 8 (pc' := 8) (ls' := [(0, aR 24 i0), (1, aR 24 i1)]) (st' := [aI (nI 5), aI (nI 5), aI (nI 0), aR 24 i1, aI (nI 0), aR 24 i0]) (cs' := []) (fun _ => rfl) al0 ?_
  refine w_sw k44 2 (Z := (sC Y 24 i0 0 24 i1 0 5)) (pc' := 14) (ls' := [(0, aR 24 i0), (1, aR 24 i1)]) (st' := []) (cs' := [¬ (nI 0) < 0, ¬ (nI 0) < 0, ¬ (nI 5) < 0, 0 + 5 ≤ 5, 0 + 5 ≤ 5, allw 24 i1]) (fun _ => rfl) rfl (al2 (by decide) (al2 (by decide) (al2 (by decide) (al2 (by decide) (al2 (by decide) (al1 rfl)))))) ?_
  replace h := wr_some h
  generalize (sC Y 24 i0 0 24 i1 0 5) = Y1 at h ⊢
  obtain rfl := Option.some.inj h
  exact w_return k44 ⟨rfl, rfl⟩
set_option maxRecDepth 20000 in
set_option maxHeartbeats 4000000 in
/-- BallotBus$Rows.copy -/
theorem sn_44_27_27 (i0 : Nat) (i1 : Nat) {Y : Sm} (v : Unit) (Z : Sm) (h : fn_44_27_27 i0 i1 Y = some (v, Z)) : Mt 4 0 44 [aR 27 i0, aR 27 i1] Y (Rt none Z) nX := by
  refine Mt_of [(0, aR 27 i0), (1, aR 27 i1)] ?_
  generalize ho : (v, Z) = o at h
  have hv9 : v = o.1 := congrArg Prod.fst ho
  have hZ9 : Z = o.2 := congrArg Prod.snd ho
  clear ho
  subst hv9 hZ9
  unfold fn_44_27_27 at h
  refine w_sg k44 8 (pc' := 8) (ls' := [(0, aR 27 i0), (1, aR 27 i1)]) (st' := [aI (nI 5), aI (nI 5), aI (nI 0), aR 27 i1, aI (nI 0), aR 27 i0]) (cs' := []) (fun _ => rfl) al0 ?_
  refine w_sw k44 2 (Z := (sC Y 27 i0 0 27 i1 0 5)) (pc' := 14) (ls' := [(0, aR 27 i0), (1, aR 27 i1)]) (st' := []) (cs' := [¬ (nI 0) < 0, ¬ (nI 0) < 0, ¬ (nI 5) < 0, 0 + 5 ≤ 5, 0 + 5 ≤ 5, allw 27 i1]) (fun _ => rfl) rfl (al2 (by decide) (al2 (by decide) (al2 (by decide) (al2 (by decide) (al2 (by decide) (al1 rfl)))))) ?_
  replace h := wr_some h
  generalize (sC Y 27 i0 0 27 i1 0 5) = Y1 at h ⊢
  obtain rfl := Option.some.inj h
  exact w_return k44 ⟨rfl, rfl⟩
set_option maxRecDepth 20000 in
set_option maxHeartbeats 4000000 in
/-- BallotBus$Accounts.copyFrom -/
theorem sn_2 (i0 : Nat) (i1 : Nat) {Y : Sm} (v : Unit) (Z : Sm) (h : fn_2 i0 i1 Y = some (v, Z)) : Mt 4 0 2 [aR 28 i0, aR 28 i1] Y (Rt none Z) nX := by
  refine Mt_of [(0, aR 28 i0), (1, aR 28 i1)] ?_
  generalize ho : (v, Z) = o at h
  have hv9 : v = o.1 := congrArg Prod.fst ho
  have hZ9 : Z = o.2 := congrArg Prod.snd ho
  clear ho
  subst hv9 hZ9
  unfold fn_2 at h
  refine w_sw k2 8 (Z := (sC Y 29 i1 0 29 i0 0 8)) (pc' := 15) (ls' := [(0, aR 28 i0), (1, aR 28 i1)]) (st' := []) (cs' := [¬ (nI 0) < 0, ¬ (nI 0) < 0, ¬ (nI 8) < 0, 0 + 8 ≤ 8, 0 + 8 ≤ 8, allw 29 i0]) (fun _ => rfl) rfl (al2 (by decide) (al2 (by decide) (al2 (by decide) (al2 (by decide) (al2 (by decide) (al1 rfl)))))) ?_
  replace h := wr_some h
  generalize (sC Y 29 i1 0 29 i0 0 8) = Y1 at h ⊢
  refine w_sw k2 8 (Z := (sC Y1 30 i1 0 30 i0 0 8)) (pc' := 30) (ls' := [(0, aR 28 i0), (1, aR 28 i1)]) (st' := []) (cs' := [¬ (nI 0) < 0, ¬ (nI 0) < 0, ¬ (nI 8) < 0, 0 + 8 ≤ 8, 0 + 8 ≤ 8, allw 30 i0]) (fun _ => rfl) rfl (al2 (by decide) (al2 (by decide) (al2 (by decide) (al2 (by decide) (al2 (by decide) (al1 rfl)))))) ?_
  replace h := wr_some h
  generalize (sC Y1 30 i1 0 30 i0 0 8) = Y2 at h ⊢
  refine w_sw k2 8 (Z := (sC Y2 31 i1 0 31 i0 0 8)) (pc' := 45) (ls' := [(0, aR 28 i0), (1, aR 28 i1)]) (st' := []) (cs' := [¬ (nI 0) < 0, ¬ (nI 0) < 0, ¬ (nI 8) < 0, 0 + 8 ≤ 8, 0 + 8 ≤ 8, allw 31 i0]) (fun _ => rfl) rfl (al2 (by decide) (al2 (by decide) (al2 (by decide) (al2 (by decide) (al2 (by decide) (al1 rfl)))))) ?_
  replace h := wr_some h
  generalize (sC Y2 31 i1 0 31 i0 0 8) = Y3 at h ⊢
  refine w_sw k2 8 (Z := (sC Y3 32 i1 0 32 i0 0 8)) (pc' := 60) (ls' := [(0, aR 28 i0), (1, aR 28 i1)]) (st' := []) (cs' := [¬ (nI 0) < 0, ¬ (nI 0) < 0, ¬ (nI 8) < 0, 0 + 8 ≤ 8, 0 + 8 ≤ 8, allw 32 i0]) (fun _ => rfl) rfl (al2 (by decide) (al2 (by decide) (al2 (by decide) (al2 (by decide) (al2 (by decide) (al1 rfl)))))) ?_
  replace h := wr_some h
  generalize (sC Y3 32 i1 0 32 i0 0 8) = Y4 at h ⊢
  refine w_sw k2 8 (Z := (sC Y4 33 i1 0 33 i0 0 8)) (pc' := 75) (ls' := [(0, aR 28 i0), (1, aR 28 i1)]) (st' := []) (cs' := [¬ (nI 0) < 0, ¬ (nI 0) < 0, ¬ (nI 8) < 0, 0 + 8 ≤ 8, 0 + 8 ≤ 8, allw 33 i0]) (fun _ => rfl) rfl (al2 (by decide) (al2 (by decide) (al2 (by decide) (al2 (by decide) (al2 (by decide) (al1 rfl)))))) ?_
  replace h := wr_some h
  generalize (sC Y4 33 i1 0 33 i0 0 8) = Y5 at h ⊢
  refine w_sw k2 8 (Z := (sC Y5 34 i1 0 34 i0 0 8)) (pc' := 90) (ls' := [(0, aR 28 i0), (1, aR 28 i1)]) (st' := []) (cs' := [¬ (nI 0) < 0, ¬ (nI 0) < 0, ¬ (nI 8) < 0, 0 + 8 ≤ 8, 0 + 8 ≤ 8, allw 34 i0]) (fun _ => rfl) rfl (al2 (by decide) (al2 (by decide) (al2 (by decide) (al2 (by decide) (al2 (by decide) (al1 rfl)))))) ?_
  replace h := wr_some h
  generalize (sC Y5 34 i1 0 34 i0 0 8) = Y6 at h ⊢
  obtain rfl := Option.some.inj h
  exact w_return k2 ⟨rfl, rfl⟩
set_option maxRecDepth 20000 in
set_option maxHeartbeats 4000000 in
/-- BallotBus$AnswerLog.copyFrom -/
theorem sn_10 (i0 : Nat) (i1 : Nat) {Y : Sm} (v : Unit) (Z : Sm) (h : fn_10 i0 i1 Y = some (v, Z)) : Mt 4 0 10 [aR 35 i0, aR 35 i1] Y (Rt none Z) nX := by
  refine Mt_of [(0, aR 35 i0), (1, aR 35 i1)] ?_
  generalize ho : (v, Z) = o at h
  have hv9 : v = o.1 := congrArg Prod.fst ho
  have hZ9 : Z = o.2 := congrArg Prod.snd ho
  clear ho
  subst hv9 hZ9
  unfold fn_10 at h
  refine w_sw k10 4 (Z := (sI Y 35 i0 1 (gI Y.1 35 i1 1))) (pc' := 8) (ls' := [(0, aR 35 i0), (1, aR 35 i1)]) (st' := []) (cs' := [allw 35 i0]) (fun _ => rfl) rfl (al1 rfl) ?_
  replace h := wr_some h
  generalize (sI Y 35 i0 1 (gI Y.1 35 i1 1)) = Y1 at h ⊢
  refine w_sw k10 4 (Z := (sI Y1 35 i0 2 (gI Y1.1 35 i1 2))) (pc' := 16) (ls' := [(0, aR 35 i0), (1, aR 35 i1)]) (st' := []) (cs' := [allw 35 i0]) (fun _ => rfl) rfl (al1 rfl) ?_
  replace h := wr_some h
  generalize (sI Y1 35 i0 2 (gI Y1.1 35 i1 2)) = Y2 at h ⊢
  refine w_sg k10 8 (pc' := 30) (ls' := [(0, aR 35 i0), (1, aR 35 i1)]) (st' := [aR 36 i0, aI (nI 0), aR 36 i0, aI (nI 0), aR 36 i1]) (cs' := []) (fun _ => rfl) al0 ?_
  refine w_sw k10 2 (Z := (sC Y2 36 i1 0 36 i0 0 360)) (pc' := 34) (ls' := [(0, aR 35 i0), (1, aR 35 i1)]) (st' := []) (cs' := [¬ (nI 0) < 0, ¬ (nI 0) < 0, ¬ (nI 360) < 0, 0 + 360 ≤ 360, 0 + 360 ≤ 360, allw 36 i0]) (fun _ => rfl) rfl (al2 (by decide) (al2 (by decide) (al2 (by decide) (al2 (by decide) (al2 (by decide) (al1 rfl)))))) ?_
  replace h := wr_some h
  generalize (sC Y2 36 i1 0 36 i0 0 360) = Y3 at h ⊢
  obtain rfl := Option.some.inj h
  exact w_return k10 ⟨rfl, rfl⟩
set_option maxRecDepth 20000 in
set_option maxHeartbeats 4000000 in
/-- BallotBus$State.copyFrom -/
theorem sn_72 (i0 : Nat) (i1 : Nat) {Y : Sm} (v : Unit) (Z : Sm) (h : fn_72 i0 i1 Y = some (v, Z)) : Mt 5 0 72 [aR 21 i0, aR 21 i1] Y (Rt none Z) nX := by
  refine Mt_of [(0, aR 21 i0), (1, aR 21 i1)] ?_
  generalize ho : (v, Z) = o at h
  have hv9 : v = o.1 := congrArg Prod.fst ho
  have hZ9 : Z = o.2 := congrArg Prod.snd ho
  clear ho
  subst hv9 hZ9
  unfold fn_72 at h
  have L121_0 : ∀ (l0 : Nat) (l1 : Nat) (n : Nat) (l2 : Int32) (Y : Sm) (e21 : (Sm) ⊕ (Unit × Sm)), lp (fun s => fn_72_L121 l0 l1 s.1 s.2) n (l2, Y) = some e21 → (∀ s9 : (Sm), e21 = .inl s9 → Wm 5 0 72 0 148 [(0, aR 21 l0), (1, aR 21 l1)] [] s9 (Rt none o.2) nX) → (∀ r, e21 = .inr r → r = o) → Wm 5 0 72 0 121 [(0, aR 21 l0), (1, aR 21 l1), (2, aI l2)] [] Y (Rt none o.2) nX := by
    intro l0 l1 n
    induction n with
    | zero => intro l2 Y e21 h; cases h
    | succ n ih20 =>
      intro l2 Y e21 h kE22 kR23
      obtain ⟨q18, h, hn19⟩ := lp_succ h
      replace h : fn_72_L121 l0 l1 l2 Y = some q18 := h
      unfold fn_72_L121 at h
      refine w_sg k72 2 (pc' := 124) (ls' := [(0, aR 21 l0), (1, aR 21 l1), (2, aI l2)]) (st' := [aI (nI 8), aI l2]) (cs' := []) (fun _ => rfl) al0 ?_
      refine w_icmp_ge k72 rfl (fun c => ?_) (fun c => ?_)
      · replace h := if_t c h
        refine w_ls [(0, aR 21 l0), (1, aR 21 l1)] (lq_c rfl (lq_c rfl lq_n)) ?_
        obtain rfl := Option.some.inj h
        obtain rfl := lpn_r hn19
        exact kE22 (Y) rfl
      · replace h := if_f c h
        obtain ⟨hc24, h⟩ := ck_some h
        refine w_sg k72 4 (pc' := 133) (ls' := [(0, aR 21 l0), (1, aR 21 l1), (2, aI l2)]) (st' := [aR 27 (8 * l1 + ix l2)]) (cs' := [vp_in l2 8]) (fun _ => rfl) (al1 (vin hc24)) ?_
        refine w_sg k72 4 (pc' := 139) (ls' := [(0, aR 21 l0), (1, aR 21 l1), (2, aI l2)]) (st' := [aR 27 (8 * l0 + ix l2), aR 27 (8 * l1 + ix l2)]) (cs' := [vp_in l2 8]) (fun _ => rfl) (al1 (vin hc24)) ?_
        obtain ⟨_, Y25, hv26, h⟩ := bd_some h
        refine w_cS0 k72 (sn_44_27_27 _ _ _ _ hv26) rfl (st := []) rfl ?_ (fun _ _ q => q.elim)
        refine w_sg k72 1 (pc' := 145) (ls' := [(0, aR 21 l0), (1, aR 21 l1), (2, aI (l2 + (nI 1)))]) (st' := []) (cs' := []) (fun _ => rfl) al0 ?_
        refine w_sg k72 1 (pc' := 121) (ls' := [(0, aR 21 l0), (1, aR 21 l1), (2, aI (l2 + (nI 1)))]) (st' := []) (cs' := []) (fun _ => rfl) al0 ?_
        refine w_ls [(0, aR 21 l0), (1, aR 21 l1), (2, aI (l2 + (nI 1)))] (lq_c rfl (lq_c rfl (lq_c rfl lq_n))) ?_
        obtain rfl := Option.some.inj h
        exact ih20 _ _ _ (lpn_l hn19) kE22 kR23
  have J148_0 : ∀ (l0 : Nat) (l1 : Nat) (Y : Sm), fn_72_J148 l0 l1 Y = some o → Wm 5 0 72 0 148 [(0, aR 21 l0), (1, aR 21 l1)] [] Y (Rt none o.2) nX := by
    intro l0 l1 Y h
    unfold fn_72_J148 at h
    refine w_sg k72 4 (pc' := 156) (ls' := [(0, aR 21 l0), (1, aR 21 l1)]) (st' := [aR 28 l1, aR 28 l0]) (cs' := []) (fun _ => rfl) al0 ?_
    obtain ⟨_, Y27, hv28, h⟩ := bd_some h
    refine w_cV0 k72 (sn_2 _ _ _ _ hv28) rfl (st := []) rfl ?_ (fun _ _ q => q.elim)
    refine w_sg k72 4 (pc' := 167) (ls' := [(0, aR 21 l0), (1, aR 21 l1)]) (st' := [aR 12 (l1 + 3), aR 12 (l0 + 3)]) (cs' := []) (fun _ => rfl) al0 ?_
    obtain ⟨_, Y29, hv30, h⟩ := bd_some h
    refine w_cV0 k72 (sn_35 _ _ _ _ hv30) rfl (st := []) rfl ?_ (fun _ _ q => q.elim)
    refine w_sg k72 4 (pc' := 178) (ls' := [(0, aR 21 l0), (1, aR 21 l1)]) (st' := [aR 35 l1, aR 35 l0]) (cs' := []) (fun _ => rfl) al0 ?_
    obtain ⟨_, Y31, hv32, h⟩ := bd_some h
    refine w_cV0 k72 (sn_10 _ _ _ _ hv32) rfl (st := []) rfl ?_ (fun _ _ q => q.elim)
    obtain rfl := Option.some.inj h
    exact w_return k72 ⟨rfl, rfl⟩
  refine w_sg k72 3 (pc' := 5) (ls' := [(0, aR 21 i0), (1, aR 21 i1)]) (st' := [aR 5 (Y.2 (i1 + 3)), aR 21 i0]) (cs' := []) (fun _ => rfl) al0 ?_
  refine w_pg3 k72 rfl ?_
  replace h := wr_some h
  generalize (sG Y (i0 + 3) (Y.2 (i1 + 3))) = Y1 at h ⊢
  refine w_sw k72 4 (Z := (sI Y1 21 i0 1 (gI Y1.1 21 i1 1))) (pc' := 16) (ls' := [(0, aR 21 i0), (1, aR 21 i1)]) (st' := []) (cs' := [allw 21 i0]) (fun _ => rfl) rfl (al1 rfl) ?_
  replace h := wr_some h
  generalize (sI Y1 21 i0 1 (gI Y1.1 21 i1 1)) = Y2 at h ⊢
  refine w_sw k72 4 (Z := (sI Y2 21 i0 2 (gI Y2.1 21 i1 2))) (pc' := 24) (ls' := [(0, aR 21 i0), (1, aR 21 i1)]) (st' := []) (cs' := [allw 21 i0]) (fun _ => rfl) rfl (al1 rfl) ?_
  replace h := wr_some h
  generalize (sI Y2 21 i0 2 (gI Y2.1 21 i1 2)) = Y3 at h ⊢
  refine w_sw k72 4 (Z := (sI Y3 21 i0 3 (gI Y3.1 21 i1 3))) (pc' := 32) (ls' := [(0, aR 21 i0), (1, aR 21 i1)]) (st' := []) (cs' := [allw 21 i0]) (fun _ => rfl) rfl (al1 rfl) ?_
  replace h := wr_some h
  generalize (sI Y3 21 i0 3 (gI Y3.1 21 i1 3)) = Y4 at h ⊢
  obtain ⟨hc5, h⟩ := ck_some h
  refine w_sw k72 4 (Z := (sI Y4 21 i0 4 (gI Y4.1 21 i1 4))) (pc' := 40) (ls' := [(0, aR 21 i0), (1, aR 21 i1)]) (st' := []) (cs' := [allw 21 i0, (gI Y4.1 21 i1 4) = 0 ∨ (gI Y4.1 21 i1 4) = 1]) (fun _ => rfl) rfl (al2 rfl (al1 (bz_or hc5))) ?_
  replace h := wr_some h
  generalize (sI Y4 21 i0 4 (gI Y4.1 21 i1 4)) = Y6 at h ⊢
  refine w_sw k72 4 (Z := (sI Y6 21 i0 5 (gI Y6.1 21 i1 5))) (pc' := 48) (ls' := [(0, aR 21 i0), (1, aR 21 i1)]) (st' := []) (cs' := [allw 21 i0]) (fun _ => rfl) rfl (al1 rfl) ?_
  replace h := wr_some h
  generalize (sI Y6 21 i0 5 (gI Y6.1 21 i1 5)) = Y7 at h ⊢
  refine w_sw k72 4 (Z := (sI Y7 21 i0 6 (gI Y7.1 21 i1 6))) (pc' := 56) (ls' := [(0, aR 21 i0), (1, aR 21 i1)]) (st' := []) (cs' := [allw 21 i0]) (fun _ => rfl) rfl (al1 rfl) ?_
  replace h := wr_some h
  generalize (sI Y7 21 i0 6 (gI Y7.1 21 i1 6)) = Y8 at h ⊢
  refine w_sw k72 4 (Z := (sI Y8 21 i0 7 (gI Y8.1 21 i1 7))) (pc' := 64) (ls' := [(0, aR 21 i0), (1, aR 21 i1)]) (st' := []) (cs' := [allw 21 i0]) (fun _ => rfl) rfl (al1 rfl) ?_
  replace h := wr_some h
  generalize (sI Y8 21 i0 7 (gI Y8.1 21 i1 7)) = Y9 at h ⊢
  refine w_sw k72 4 (Z := (sI Y9 21 i0 8 (gI Y9.1 21 i1 8))) (pc' := 72) (ls' := [(0, aR 21 i0), (1, aR 21 i1)]) (st' := []) (cs' := [allw 21 i0]) (fun _ => rfl) rfl (al1 rfl) ?_
  replace h := wr_some h
  generalize (sI Y9 21 i0 8 (gI Y9.1 21 i1 8)) = Y10 at h ⊢
  refine w_sg k72 4 (pc' := 80) (ls' := [(0, aR 21 i0), (1, aR 21 i1)]) (st' := [aR 22 i0, aR 22 i1]) (cs' := []) (fun _ => rfl) al0 ?_
  obtain ⟨_, Y11, hv12, h⟩ := bd_some h
  refine w_cS0 k72 (sn_44_22_22 _ _ _ _ hv12) rfl (st := []) rfl ?_ (fun _ _ q => q.elim)
  refine w_sg k72 4 (pc' := 91) (ls' := [(0, aR 21 i0), (1, aR 21 i1)]) (st' := [aR 23 i0, aR 23 i1]) (cs' := []) (fun _ => rfl) al0 ?_
  obtain ⟨_, Y13, hv14, h⟩ := bd_some h
  refine w_cS0 k72 (sn_44_23_23 _ _ _ _ hv14) rfl (st := []) rfl ?_ (fun _ _ q => q.elim)
  refine w_sg k72 4 (pc' := 102) (ls' := [(0, aR 21 i0), (1, aR 21 i1)]) (st' := [aR 24 i0, aR 24 i1]) (cs' := []) (fun _ => rfl) al0 ?_
  obtain ⟨_, Y15, hv16, h⟩ := bd_some h
  refine w_cS0 k72 (sn_44_24_24 _ _ _ _ hv16) rfl (st := []) rfl ?_ (fun _ _ q => q.elim)
  refine w_sw k72 8 (Z := (sD2 Y15 25 i1 0 25 i0 0 5)) (pc' := 119) (ls' := [(0, aR 21 i0), (1, aR 21 i1)]) (st' := []) (cs' := [¬ (nI 0) < 0, ¬ (nI 0) < 0, ¬ (nI 5) < 0, 0 + 5 ≤ 5, 0 + 5 ≤ 5, allw 25 i0]) (fun _ => rfl) rfl (al2 (by decide) (al2 (by decide) (al2 (by decide) (al2 (by decide) (al2 (by decide) (al1 rfl)))))) ?_
  replace h := wr_some h
  generalize (sD2 Y15 25 i1 0 25 i0 0 5) = Y17 at h ⊢
  refine w_sg k72 2 (pc' := 121) (ls' := [(0, aR 21 i0), (1, aR 21 i1), (2, aI (nI 0))]) (st' := []) (cs' := []) (fun _ => rfl) al0 ?_
  obtain ⟨e35, hl33, hx34⟩ := exd_some h
  refine w_ls [(0, aR 21 i0), (1, aR 21 i1), (2, aI (nI 0))] (lq_c rfl (lq_c rfl (lq_c rfl lq_n))) ?_
  refine L121_0 _ _ _ _ _ e35 hl33 (fun s9 hs9 => ?_) (fun r9 hr9 => ?_)
  · subst hs9
    replace h : fn_72_J148 i0 i1 s9 = some o := hx34
    refine w_ls [(0, aR 21 i0), (1, aR 21 i1)] (lq_c rfl (lq_c rfl lq_n)) ?_
    exact J148_0 _ _ _ h
  · subst hr9
    exact hx34
set_option maxRecDepth 20000 in
set_option maxHeartbeats 4000000 in
/-- BallotBus$History.push -/
theorem sn_14 (i1 : Nat) {Y : Sm} (v : Unit) (Z : Sm) (h : fn_14 i1 Y = some (v, Z)) : Mt 6 0 14 [aR 37 0, aR 21 i1] Y (Rt none Z) nX := by
  refine Mt_of [(0, aR 37 0), (1, aR 21 i1)] ?_
  generalize ho : (v, Z) = o at h
  have hv9 : v = o.1 := congrArg Prod.fst ho
  have hZ9 : Z = o.2 := congrArg Prod.snd ho
  clear ho
  subst hv9 hZ9
  unfold fn_14 at h
  have J22_0 : ∀ (l1 : Nat) (t0 : Int32) (Y : Sm), fn_14_J22 l1 t0 Y = some o → Wm 6 0 14 0 22 [(0, aR 37 0), (1, aR 21 l1)] [aI t0, aR 37 0] Y (Rt none o.2) nX := by
    intro l1 t0 Y h
    unfold fn_14_J22 at h
    refine w_sw k14 1 (Z := (sI Y 37 0 1 t0)) (pc' := 25) (ls' := [(0, aR 37 0), (1, aR 21 l1)]) (st' := []) (cs' := [allw 37 0]) (fun _ => rfl) rfl (al1 rfl) ?_
    replace h := wr_some h
    generalize (sI Y 37 0 1 t0) = Y1 at h ⊢
    obtain ⟨hc2, h⟩ := ck_some h
    refine w_sg k14 5 (pc' := 34) (ls' := [(0, aR 37 0), (1, aR 21 l1)]) (st' := [aR 21 ((ix (gI Y1.1 37 0 1)) + 3)]) (cs' := [vp_in (gI Y1.1 37 0 1) 8]) (fun _ => rfl) (al1 (vin hc2)) ?_
    refine w_sg k14 1 (pc' := 35) (ls' := [(0, aR 37 0), (1, aR 21 l1)]) (st' := [aR 21 l1, aR 21 ((ix (gI Y1.1 37 0 1)) + 3)]) (cs' := []) (fun _ => rfl) al0 ?_
    obtain ⟨_, Y3, hv4, h⟩ := bd_some h
    refine w_cV0 k14 (sn_72 _ _ _ _ hv4) rfl (st := []) rfl ?_ (fun _ _ q => q.elim)
    refine w_sw k14 8 (Z := (sI Y3 37 0 2 (if (nI 8) < ((gI Y3.1 37 0 2) + (nI 1)) then (nI 8) else ((gI Y3.1 37 0 2) + (nI 1))))) (pc' := 53) (ls' := [(0, aR 37 0), (1, aR 21 l1)]) (st' := []) (cs' := [allw 37 0]) (fun _ => rfl) rfl (al1 rfl) ?_
    replace h := wr_some h
    generalize (sI Y3 37 0 2 (if (nI 8) < ((gI Y3.1 37 0 2) + (nI 1)) then (nI 8) else ((gI Y3.1 37 0 2) + (nI 1)))) = Y5 at h ⊢
    obtain rfl := Option.some.inj h
    exact w_return k14 ⟨rfl, rfl⟩
  refine w_sg k14 6 (pc' := 9) (ls' := [(0, aR 37 0), (1, aR 21 i1)]) (st' := [aI (nI 8), aI ((gI Y.1 37 0 1) + (nI 1)), aR 37 0]) (cs' := []) (fun _ => rfl) al0 ?_
  refine w_icmp_ge k14 rfl (fun c => ?_) (fun c => ?_)
  · replace h := if_t c h
    refine w_sg k14 1 (pc' := 22) (ls' := [(0, aR 37 0), (1, aR 21 i1)]) (st' := [aI (nI 0), aR 37 0]) (cs' := []) (fun _ => rfl) al0 ?_
    refine w_ls [(0, aR 37 0), (1, aR 21 i1)] (lq_c rfl (lq_c rfl lq_n)) ?_
    exact J22_0 _ _ _ h
  · replace h := if_f c h
    refine w_sg k14 5 (pc' := 22) (ls' := [(0, aR 37 0), (1, aR 21 i1)]) (st' := [aI ((gI Y.1 37 0 1) + (nI 1)), aR 37 0]) (cs' := []) (fun _ => rfl) al0 ?_
    refine w_ls [(0, aR 37 0), (1, aR 21 i1)] (lq_c rfl (lq_c rfl lq_n)) ?_
    exact J22_0 _ _ _ h
set_option maxRecDepth 20000 in
set_option maxHeartbeats 4000000 in
/-- BallotBus$State.isMultipleOf -/
theorem sn_87 (i0 : Nat) (a1 : Int32) {Y : Sm} (v : Int32) (Z : Sm) (h : fn_87 i0 a1 Y = some (v, Z)) : Mt 4 0 87 [aR 21 i0, aI a1] Y (Rt (some (aI v)) Z) nX := by
  refine Mt_of [(0, aR 21 i0), (1, aI a1)] ?_
  generalize ho : (v, Z) = o at h
  have hv9 : v = o.1 := congrArg Prod.fst ho
  have hZ9 : Z = o.2 := congrArg Prod.snd ho
  clear ho
  subst hv9 hZ9
  unfold fn_87 at h
  refine w_sg k87 1 (pc' := 1) (ls' := [(0, aR 21 i0), (1, aI a1)]) (st' := [aI a1]) (cs' := []) (fun _ => rfl) al0 ?_
  refine w_if_le k87 rfl (fun c => ?_) (fun c => ?_)
  · replace h := if_t c h
    refine w_sg k87 1 (pc' := 18) (ls' := [(0, aR 21 i0), (1, aI a1)]) (st' := [aI (nI 0)]) (cs' := []) (fun _ => rfl) al0 ?_
    obtain rfl := Option.some.inj h
    exact w_zreturn k87 (Or.inl rfl) ⟨rfl, rfl⟩
  · replace h := if_f c h
    obtain ⟨hc1, h⟩ := ck_some h
    refine w_sg k87 4 (pc' := 10) (ls' := [(0, aR 21 i0), (1, aI a1)]) (st' := [aI ((gI Y.1 21 i0 1) - (gI Y.1 21 i0 1) / a1 * a1)]) (cs' := [¬ a1 = 0]) (fun _ => rfl) (al1 (nz_of hc1)) ?_
    refine w_if_ne k87 rfl (fun c => ?_) (fun c => ?_)
    · replace h := if_f c h
      refine w_sg k87 1 (pc' := 18) (ls' := [(0, aR 21 i0), (1, aI a1)]) (st' := [aI (nI 0)]) (cs' := []) (fun _ => rfl) al0 ?_
      obtain rfl := Option.some.inj h
      exact w_zreturn k87 (Or.inl rfl) ⟨rfl, rfl⟩
    · replace h := if_t c h
      refine w_sg k87 2 (pc' := 18) (ls' := [(0, aR 21 i0), (1, aI a1)]) (st' := [aI (nI 1)]) (cs' := []) (fun _ => rfl) al0 ?_
      obtain rfl := Option.some.inj h
      exact w_zreturn k87 (Or.inr rfl) ⟨rfl, rfl⟩
set_option maxRecDepth 20000 in
set_option maxHeartbeats 4000000 in
/-- BallotBus$Accounts.book -/
theorem sn_7 (i0 : Nat) (a1 : Int32) (a2 : Int32) {Y : Sm} (v : Int32) (Z : Sm) (h : fn_7 i0 a1 a2 Y = some (v, Z)) : Mt 4 0 7 [aR 28 i0, aI a1, aI a2] Y (Rt (some (aI v)) Z) nX := by
  refine Mt_of [(0, aR 28 i0), (1, aI a1), (2, aI a2)] ?_
  generalize ho : (v, Z) = o at h
  have hv9 : v = o.1 := congrArg Prod.fst ho
  have hZ9 : Z = o.2 := congrArg Prod.snd ho
  clear ho
  subst hv9 hZ9
  unfold fn_7 at h
  obtain ⟨hc1, h⟩ := ck_some h
  refine w_sg k7 7 (pc' := 11) (ls' := [(0, aR 28 i0), (1, aI a1), (2, aI a2), (3, aI (if (gI Y.1 30 i0 (ix a1)) < a2 then (gI Y.1 30 i0 (ix a1)) else a2))]) (st' := []) (cs' := [vp_in a1 8]) (fun _ => rfl) (al1 (vin hc1)) ?_
  refine w_sw k7 8 (Z := (sI Y 30 i0 (ix a1) ((gI Y.1 30 i0 (ix a1)) - (if (gI Y.1 30 i0 (ix a1)) < a2 then (gI Y.1 30 i0 (ix a1)) else a2)))) (pc' := 21) (ls' := [(0, aR 28 i0), (1, aI a1), (2, aI a2), (3, aI (if (gI Y.1 30 i0 (ix a1)) < a2 then (gI Y.1 30 i0 (ix a1)) else a2))]) (st' := []) (cs' := [vp_in a1 8, vp_in a1 8, allw 30 i0]) (fun _ => rfl) rfl (al2 (vin hc1) (al2 (vin hc1) (al1 rfl))) ?_
  replace h := wr_some h
  generalize (sI Y 30 i0 (ix a1) ((gI Y.1 30 i0 (ix a1)) - (if (gI Y.1 30 i0 (ix a1)) < a2 then (gI Y.1 30 i0 (ix a1)) else a2))) = Y2 at h ⊢
  refine w_sg k7 8 (pc' := 35) (ls' := [(0, aR 28 i0), (1, aI a1), (2, aI a2), (3, aI (if (gI Y.1 30 i0 (ix a1)) < a2 then (gI Y.1 30 i0 (ix a1)) else a2))]) (st' := [aI (gI Y2.1 29 i0 (ix a1)), aI (nI 999), aI a1, aR 29 i0]) (cs' := [vp_in a1 8]) (fun _ => rfl) (al1 (vin hc1)) ?_
  refine w_sw k7 6 (Z := (sI Y2 29 i0 (ix a1) (if (((gI Y2.1 29 i0 (ix a1)) + a2) - (if (gI Y.1 30 i0 (ix a1)) < a2 then (gI Y.1 30 i0 (ix a1)) else a2)) < (nI 999) then (((gI Y2.1 29 i0 (ix a1)) + a2) - (if (gI Y.1 30 i0 (ix a1)) < a2 then (gI Y.1 30 i0 (ix a1)) else a2)) else (nI 999)))) (pc' := 43) (ls' := [(0, aR 28 i0), (1, aI a1), (2, aI a2), (3, aI (if (gI Y.1 30 i0 (ix a1)) < a2 then (gI Y.1 30 i0 (ix a1)) else a2))]) (st' := []) (cs' := [vp_in a1 8, allw 29 i0]) (fun _ => rfl) rfl (al2 (vin hc1) (al1 rfl)) ?_
  replace h := wr_some h
  generalize (sI Y2 29 i0 (ix a1) (if (((gI Y2.1 29 i0 (ix a1)) + a2) - (if (gI Y.1 30 i0 (ix a1)) < a2 then (gI Y.1 30 i0 (ix a1)) else a2)) < (nI 999) then (((gI Y2.1 29 i0 (ix a1)) + a2) - (if (gI Y.1 30 i0 (ix a1)) < a2 then (gI Y.1 30 i0 (ix a1)) else a2)) else (nI 999))) = Y3 at h ⊢
  refine w_sw k7 8 (Z := (sI Y3 32 i0 (ix a1) ((gI Y3.1 32 i0 (ix a1)) + (nI 1)))) (pc' := 53) (ls' := [(0, aR 28 i0), (1, aI a1), (2, aI a2), (3, aI (if (gI Y.1 30 i0 (ix a1)) < a2 then (gI Y.1 30 i0 (ix a1)) else a2))]) (st' := []) (cs' := [vp_in a1 8, vp_in a1 8, allw 32 i0]) (fun _ => rfl) rfl (al2 (vin hc1) (al2 (vin hc1) (al1 rfl))) ?_
  replace h := wr_some h
  generalize (sI Y3 32 i0 (ix a1) ((gI Y3.1 32 i0 (ix a1)) + (nI 1))) = Y4 at h ⊢
  refine w_sw k7 8 (Z := (sI Y4 33 i0 (ix a1) ((gI Y4.1 33 i0 (ix a1)) + a2))) (pc' := 63) (ls' := [(0, aR 28 i0), (1, aI a1), (2, aI a2), (3, aI (if (gI Y.1 30 i0 (ix a1)) < a2 then (gI Y.1 30 i0 (ix a1)) else a2))]) (st' := []) (cs' := [vp_in a1 8, vp_in a1 8, allw 33 i0]) (fun _ => rfl) rfl (al2 (vin hc1) (al2 (vin hc1) (al1 rfl))) ?_
  replace h := wr_some h
  generalize (sI Y4 33 i0 (ix a1) ((gI Y4.1 33 i0 (ix a1)) + a2)) = Y5 at h ⊢
  refine w_sg k7 1 (pc' := 64) (ls' := [(0, aR 28 i0), (1, aI a1), (2, aI a2), (3, aI (if (gI Y.1 30 i0 (ix a1)) < a2 then (gI Y.1 30 i0 (ix a1)) else a2))]) (st' := [aI (if (gI Y.1 30 i0 (ix a1)) < a2 then (gI Y.1 30 i0 (ix a1)) else a2)]) (cs' := []) (fun _ => rfl) al0 ?_
  obtain rfl := Option.some.inj h
  exact w_ireturn k7 ⟨rfl, rfl⟩
set_option maxRecDepth 20000 in
set_option maxHeartbeats 4000000 in
/-- BallotBus$AnswerLog.add -/
theorem sn_11 (i0 : Nat) (i1 : Nat) (a2 : Int32) (a3 : Int32) (a4 : Int32) {Y : Sm} (v : Unit) (Z : Sm) (h : fn_11 i0 i1 a2 a3 a4 Y = some (v, Z)) : Mt 4 0 11 [aR 35 i0, aR 12 i1, aI a2, aI a3, aI a4] Y (Rt none Z) nX := by
  refine Mt_of [(0, aR 35 i0), (1, aR 12 i1), (2, aI a2), (3, aI a3), (4, aI a4)] ?_
  generalize ho : (v, Z) = o at h
  have hv9 : v = o.1 := congrArg Prod.fst ho
  have hZ9 : Z = o.2 := congrArg Prod.snd ho
  clear ho
  subst hv9 hZ9
  unfold fn_11 at h
  refine w_sg k11 5 (pc' := 9) (ls' := [(0, aR 35 i0), (1, aR 12 i1), (2, aI a2), (3, aI a3), (4, aI a4), (5, aI ((gI Y.1 35 i0 1) * (nI 6)))]) (st' := []) (cs' := []) (fun _ => rfl) al0 ?_
  refine w_sg k11 7 (pc' := 21) (ls' := [(0, aR 35 i0), (1, aR 12 i1), (2, aI a2), (3, aI a3), (4, aI a4), (5, aI ((gI Y.1 35 i0 1) * (nI 6)))]) (st' := [aR 19 i1, aI ((gI Y.1 35 i0 1) * (nI 6)), aR 36 i0]) (cs' := [vp_in (nI 5) 6]) (fun _ => rfl) (al1 (vin rfl)) ?_
  obtain ⟨hc1, h⟩ := ck_some h
  obtain ⟨hc2, h⟩ := ck_some h
  refine w_sw k11 3 (Z := (sI Y 36 i0 (ix ((gI Y.1 35 i0 1) * (nI 6))) (gI Y.1 19 i1 (ix a2)))) (pc' := 24) (ls' := [(0, aR 35 i0), (1, aR 12 i1), (2, aI a2), (3, aI a3), (4, aI a4), (5, aI ((gI Y.1 35 i0 1) * (nI 6)))]) (st' := []) (cs' := [vp_in a2 40, vp_in ((gI Y.1 35 i0 1) * (nI 6)) 360, allw 36 i0]) (fun _ => rfl) rfl (al2 (vin hc1) (al2 (vin hc2) (al1 rfl))) ?_
  replace h := wr_some h
  generalize (sI Y 36 i0 (ix ((gI Y.1 35 i0 1) * (nI 6))) (gI Y.1 19 i1 (ix a2))) = Y3 at h ⊢
  refine w_sg k11 8 (pc' := 37) (ls' := [(0, aR 35 i0), (1, aR 12 i1), (2, aI a2), (3, aI a3), (4, aI a4), (5, aI ((gI Y.1 35 i0 1) * (nI 6)))]) (st' := [aI (nI 0), aR 13 i1, aI (((gI Y.1 35 i0 1) * (nI 6)) + (nI 1)), aR 36 i0]) (cs' := []) (fun _ => rfl) al0 ?_
  refine w_sg k11 1 (pc' := 38) (ls' := [(0, aR 35 i0), (1, aR 12 i1), (2, aI a2), (3, aI a3), (4, aI a4), (5, aI ((gI Y.1 35 i0 1) * (nI 6)))]) (st' := [aR 14 i1, aI (((gI Y.1 35 i0 1) * (nI 6)) + (nI 1)), aR 36 i0]) (cs' := [vp_in (nI 0) 6]) (fun _ => rfl) (al1 (vin rfl)) ?_
  obtain ⟨hc4, h⟩ := ck_some h
  refine w_sw k11 3 (Z := (sI Y3 36 i0 (ix (((gI Y.1 35 i0 1) * (nI 6)) + (nI 1))) (gI Y3.1 14 i1 (ix a2)))) (pc' := 41) (ls' := [(0, aR 35 i0), (1, aR 12 i1), (2, aI a2), (3, aI a3), (4, aI a4), (5, aI ((gI Y.1 35 i0 1) * (nI 6)))]) (st' := []) (cs' := [vp_in a2 40, vp_in (((gI Y.1 35 i0 1) * (nI 6)) + (nI 1)) 360, allw 36 i0]) (fun _ => rfl) rfl (al2 (vin hc1) (al2 (vin hc4) (al1 rfl))) ?_
  replace h := wr_some h
  generalize (sI Y3 36 i0 (ix (((gI Y.1 35 i0 1) * (nI 6)) + (nI 1))) (gI Y3.1 14 i1 (ix a2))) = Y5 at h ⊢
  refine w_sg k11 8 (pc' := 54) (ls' := [(0, aR 35 i0), (1, aR 12 i1), (2, aI a2), (3, aI a3), (4, aI a4), (5, aI ((gI Y.1 35 i0 1) * (nI 6)))]) (st' := [aI (nI 1), aR 13 i1, aI (((gI Y.1 35 i0 1) * (nI 6)) + (nI 2)), aR 36 i0]) (cs' := []) (fun _ => rfl) al0 ?_
  refine w_sg k11 1 (pc' := 55) (ls' := [(0, aR 35 i0), (1, aR 12 i1), (2, aI a2), (3, aI a3), (4, aI a4), (5, aI ((gI Y.1 35 i0 1) * (nI 6)))]) (st' := [aR 15 i1, aI (((gI Y.1 35 i0 1) * (nI 6)) + (nI 2)), aR 36 i0]) (cs' := [vp_in (nI 1) 6]) (fun _ => rfl) (al1 (vin rfl)) ?_
  obtain ⟨hc6, h⟩ := ck_some h
  refine w_sw k11 3 (Z := (sI Y5 36 i0 (ix (((gI Y.1 35 i0 1) * (nI 6)) + (nI 2))) (gI Y5.1 15 i1 (ix a2)))) (pc' := 58) (ls' := [(0, aR 35 i0), (1, aR 12 i1), (2, aI a2), (3, aI a3), (4, aI a4), (5, aI ((gI Y.1 35 i0 1) * (nI 6)))]) (st' := []) (cs' := [vp_in a2 40, vp_in (((gI Y.1 35 i0 1) * (nI 6)) + (nI 2)) 360, allw 36 i0]) (fun _ => rfl) rfl (al2 (vin hc1) (al2 (vin hc6) (al1 rfl))) ?_
  replace h := wr_some h
  generalize (sI Y5 36 i0 (ix (((gI Y.1 35 i0 1) * (nI 6)) + (nI 2))) (gI Y5.1 15 i1 (ix a2))) = Y7 at h ⊢
  refine w_sg k11 8 (pc' := 71) (ls' := [(0, aR 35 i0), (1, aR 12 i1), (2, aI a2), (3, aI a3), (4, aI a4), (5, aI ((gI Y.1 35 i0 1) * (nI 6)))]) (st' := [aI (nI 4), aR 13 i1, aI (((gI Y.1 35 i0 1) * (nI 6)) + (nI 3)), aR 36 i0]) (cs' := []) (fun _ => rfl) al0 ?_
  refine w_sg k11 1 (pc' := 72) (ls' := [(0, aR 35 i0), (1, aR 12 i1), (2, aI a2), (3, aI a3), (4, aI a4), (5, aI ((gI Y.1 35 i0 1) * (nI 6)))]) (st' := [aR 18 i1, aI (((gI Y.1 35 i0 1) * (nI 6)) + (nI 3)), aR 36 i0]) (cs' := [vp_in (nI 4) 6]) (fun _ => rfl) (al1 (vin rfl)) ?_
  obtain ⟨hc8, h⟩ := ck_some h
  refine w_sw k11 3 (Z := (sI Y7 36 i0 (ix (((gI Y.1 35 i0 1) * (nI 6)) + (nI 3))) (gI Y7.1 18 i1 (ix a2)))) (pc' := 75) (ls' := [(0, aR 35 i0), (1, aR 12 i1), (2, aI a2), (3, aI a3), (4, aI a4), (5, aI ((gI Y.1 35 i0 1) * (nI 6)))]) (st' := []) (cs' := [vp_in a2 40, vp_in (((gI Y.1 35 i0 1) * (nI 6)) + (nI 3)) 360, allw 36 i0]) (fun _ => rfl) rfl (al2 (vin hc1) (al2 (vin hc8) (al1 rfl))) ?_
  replace h := wr_some h
  generalize (sI Y7 36 i0 (ix (((gI Y.1 35 i0 1) * (nI 6)) + (nI 3))) (gI Y7.1 18 i1 (ix a2))) = Y9 at h ⊢
  obtain ⟨hc10, h⟩ := ck_some h
  refine w_sw k11 7 (Z := (sI Y9 36 i0 (ix (((gI Y.1 35 i0 1) * (nI 6)) + (nI 4))) a3)) (pc' := 85) (ls' := [(0, aR 35 i0), (1, aR 12 i1), (2, aI a2), (3, aI a3), (4, aI a4), (5, aI ((gI Y.1 35 i0 1) * (nI 6)))]) (st' := []) (cs' := [vp_in (((gI Y.1 35 i0 1) * (nI 6)) + (nI 4)) 360, allw 36 i0]) (fun _ => rfl) rfl (al2 (vin hc10) (al1 rfl)) ?_
  replace h := wr_some h
  generalize (sI Y9 36 i0 (ix (((gI Y.1 35 i0 1) * (nI 6)) + (nI 4))) a3) = Y11 at h ⊢
  obtain ⟨hc12, h⟩ := ck_some h
  refine w_sw k11 7 (Z := (sI Y11 36 i0 (ix (((gI Y.1 35 i0 1) * (nI 6)) + (nI 5))) a4)) (pc' := 96) (ls' := [(0, aR 35 i0), (1, aR 12 i1), (2, aI a2), (3, aI a3), (4, aI a4), (5, aI ((gI Y.1 35 i0 1) * (nI 6)))]) (st' := []) (cs' := [vp_in (((gI Y.1 35 i0 1) * (nI 6)) + (nI 5)) 360, allw 36 i0]) (fun _ => rfl) rfl (al2 (vin hc12) (al1 rfl)) ?_
  replace h := wr_some h
  generalize (sI Y11 36 i0 (ix (((gI Y.1 35 i0 1) * (nI 6)) + (nI 5))) a4) = Y13 at h ⊢
  refine w_sw k11 8 (Z := (sI Y13 35 i0 1 (((gI Y13.1 35 i0 1) + (nI 1)) - ((gI Y13.1 35 i0 1) + (nI 1)) / (nI 60) * (nI 60)))) (pc' := 109) (ls' := [(0, aR 35 i0), (1, aR 12 i1), (2, aI a2), (3, aI a3), (4, aI a4), (5, aI ((gI Y.1 35 i0 1) * (nI 6)))]) (st' := []) (cs' := [¬ (nI 60) = 0, allw 35 i0]) (fun _ => rfl) rfl (al2 (by decide) (al1 rfl)) ?_
  replace h := wr_some h
  generalize (sI Y13 35 i0 1 (((gI Y13.1 35 i0 1) + (nI 1)) - ((gI Y13.1 35 i0 1) + (nI 1)) / (nI 60) * (nI 60))) = Y14 at h ⊢
  refine w_sw k11 8 (Z := (sI Y14 35 i0 2 (if (nI 60) < ((gI Y14.1 35 i0 2) + (nI 1)) then (nI 60) else ((gI Y14.1 35 i0 2) + (nI 1))))) (pc' := 124) (ls' := [(0, aR 35 i0), (1, aR 12 i1), (2, aI a2), (3, aI a3), (4, aI a4), (5, aI ((gI Y.1 35 i0 1) * (nI 6)))]) (st' := []) (cs' := [allw 35 i0]) (fun _ => rfl) rfl (al1 rfl) ?_
  replace h := wr_some h
  generalize (sI Y14 35 i0 2 (if (nI 60) < ((gI Y14.1 35 i0 2) + (nI 1)) then (nI 60) else ((gI Y14.1 35 i0 2) + (nI 1)))) = Y15 at h ⊢
  obtain rfl := Option.some.inj h
  exact w_return k11 ⟨rfl, rfl⟩
set_option maxRecDepth 20000 in
set_option maxHeartbeats 4000000 in
/-- BallotBus$Requests.removeAt -/
theorem sn_37 (i0 : Nat) (a1 : Int32) {Y : Sm} (v : Unit) (Z : Sm) (h : fn_37 i0 a1 Y = some (v, Z)) : Mt 4 0 37 [aR 12 i0, aI a1] Y (Rt none Z) nX := by
  refine Mt_of [(0, aR 12 i0), (1, aI a1)] ?_
  generalize ho : (v, Z) = o at h
  have hv9 : v = o.1 := congrArg Prod.fst ho
  have hZ9 : Z = o.2 := congrArg Prod.snd ho
  clear ho
  subst hv9 hZ9
  unfold fn_37 at h
  refine w_sg k37 1 (pc' := 1) (ls' := [(0, aR 12 i0), (1, aI a1)]) (st' := [aI a1]) (cs' := []) (fun _ => rfl) al0 ?_
  refine w_if_lt k37 rfl (fun c => ?_) (fun c => ?_)
  · replace h := if_t c h
    obtain rfl := Option.some.inj h
    exact w_return k37 ⟨rfl, rfl⟩
  · replace h := if_f c h
    refine w_sg k37 3 (pc' := 9) (ls' := [(0, aR 12 i0), (1, aI a1)]) (st' := [aI (gI Y.1 12 i0 1), aI a1]) (cs' := []) (fun _ => rfl) al0 ?_
    refine w_icmp_lt k37 rfl (fun c => ?_) (fun c => ?_)
    · replace h := if_t c h
      refine w_sg k37 2 (pc' := 15) (ls' := [(0, aR 12 i0), (1, aI a1), (2, aI (nI 0))]) (st' := []) (cs' := []) (fun _ => rfl) al0 ?_
      refine w_sg k37 2 (pc' := 18) (ls' := [(0, aR 12 i0), (1, aI a1), (2, aI (nI 0))]) (st' := [aI (nI 6), aI (nI 0)]) (cs' := []) (fun _ => rfl) al0 ?_
      refine w_icmp_ge k37 rfl (fun c => absurd c (by decide)) (fun _ => ?_)
      refine w_sg k37 4 (pc' := 27) (ls' := [(0, aR 12 i0), (1, aI a1), (2, aI (nI 0))]) (st' := [aR 14 i0]) (cs' := [vp_in (nI 0) 6]) (fun _ => rfl) (al1 (vin rfl)) ?_
      refine w_sg k37 7 (pc' := 36) (ls' := [(0, aR 12 i0), (1, aI a1), (2, aI (nI 0))]) (st' := [aR 14 i0, aI (a1 + (nI 1)), aR 14 i0]) (cs' := [vp_in (nI 0) 6]) (fun _ => rfl) (al1 (vin rfl)) ?_
      obtain ⟨hc1, h⟩ := ck_some h
      refine w_sw k37 8 (Z := (sC Y 14 i0 (ix (a1 + (nI 1))) 14 i0 (ix a1) (ix (((gI Y.1 12 i0 1) - a1) - (nI 1))))) (pc' := 48) (ls' := [(0, aR 12 i0), (1, aI a1), (2, aI (nI 0))]) (st' := []) (cs' := [¬ (a1 + (nI 1)) < 0, ¬ a1 < 0, ¬ (((gI Y.1 12 i0 1) - a1) - (nI 1)) < 0, (ix (a1 + (nI 1))) + (ix (((gI Y.1 12 i0 1) - a1) - (nI 1))) ≤ 40, (ix a1) + (ix (((gI Y.1 12 i0 1) - a1) - (nI 1))) ≤ 40, allw 14 i0]) (fun _ => rfl) rfl (al2 (cpok1 hc1) (al2 (cpok2 hc1) (al2 (cpok3 hc1) (al2 (cpok4 hc1) (al2 (cpok5 hc1) (al1 rfl)))))) ?_
      replace h := wr_some h
      generalize (sC Y 14 i0 (ix (a1 + (nI 1))) 14 i0 (ix a1) (ix (((gI Y.1 12 i0 1) - a1) - (nI 1)))) = Y2 at h ⊢
      refine w_sg k37 1 (pc' := 51) (ls' := [(0, aR 12 i0), (1, aI a1), (2, aI (nI 1))]) (st' := []) (cs' := []) (fun _ => rfl) al0 ?_
      refine w_sg k37 3 (pc' := 18) (ls' := [(0, aR 12 i0), (1, aI a1), (2, aI (nI 1))]) (st' := [aI (nI 6), aI (nI 1)]) (cs' := []) (fun _ => rfl) al0 ?_
      refine w_icmp_ge k37 rfl (fun c => absurd c (by decide)) (fun _ => ?_)
      refine w_sg k37 4 (pc' := 27) (ls' := [(0, aR 12 i0), (1, aI a1), (2, aI (nI 1))]) (st' := [aR 15 i0]) (cs' := [vp_in (nI 1) 6]) (fun _ => rfl) (al1 (vin rfl)) ?_
      refine w_sg k37 7 (pc' := 36) (ls' := [(0, aR 12 i0), (1, aI a1), (2, aI (nI 1))]) (st' := [aR 15 i0, aI (a1 + (nI 1)), aR 15 i0]) (cs' := [vp_in (nI 1) 6]) (fun _ => rfl) (al1 (vin rfl)) ?_
      obtain ⟨hc3, h⟩ := ck_some h
      refine w_sw k37 8 (Z := (sC Y2 15 i0 (ix (a1 + (nI 1))) 15 i0 (ix a1) (ix (((gI Y2.1 12 i0 1) - a1) - (nI 1))))) (pc' := 48) (ls' := [(0, aR 12 i0), (1, aI a1), (2, aI (nI 1))]) (st' := []) (cs' := [¬ (a1 + (nI 1)) < 0, ¬ a1 < 0, ¬ (((gI Y2.1 12 i0 1) - a1) - (nI 1)) < 0, (ix (a1 + (nI 1))) + (ix (((gI Y2.1 12 i0 1) - a1) - (nI 1))) ≤ 40, (ix a1) + (ix (((gI Y2.1 12 i0 1) - a1) - (nI 1))) ≤ 40, allw 15 i0]) (fun _ => rfl) rfl (al2 (cpok1 hc3) (al2 (cpok2 hc3) (al2 (cpok3 hc3) (al2 (cpok4 hc3) (al2 (cpok5 hc3) (al1 rfl)))))) ?_
      replace h := wr_some h
      generalize (sC Y2 15 i0 (ix (a1 + (nI 1))) 15 i0 (ix a1) (ix (((gI Y2.1 12 i0 1) - a1) - (nI 1)))) = Y4 at h ⊢
      refine w_sg k37 1 (pc' := 51) (ls' := [(0, aR 12 i0), (1, aI a1), (2, aI (nI 2))]) (st' := []) (cs' := []) (fun _ => rfl) al0 ?_
      refine w_sg k37 3 (pc' := 18) (ls' := [(0, aR 12 i0), (1, aI a1), (2, aI (nI 2))]) (st' := [aI (nI 6), aI (nI 2)]) (cs' := []) (fun _ => rfl) al0 ?_
      refine w_icmp_ge k37 rfl (fun c => absurd c (by decide)) (fun _ => ?_)
      refine w_sg k37 4 (pc' := 27) (ls' := [(0, aR 12 i0), (1, aI a1), (2, aI (nI 2))]) (st' := [aR 16 i0]) (cs' := [vp_in (nI 2) 6]) (fun _ => rfl) (al1 (vin rfl)) ?_
      refine w_sg k37 7 (pc' := 36) (ls' := [(0, aR 12 i0), (1, aI a1), (2, aI (nI 2))]) (st' := [aR 16 i0, aI (a1 + (nI 1)), aR 16 i0]) (cs' := [vp_in (nI 2) 6]) (fun _ => rfl) (al1 (vin rfl)) ?_
      obtain ⟨hc5, h⟩ := ck_some h
      refine w_sw k37 8 (Z := (sC Y4 16 i0 (ix (a1 + (nI 1))) 16 i0 (ix a1) (ix (((gI Y4.1 12 i0 1) - a1) - (nI 1))))) (pc' := 48) (ls' := [(0, aR 12 i0), (1, aI a1), (2, aI (nI 2))]) (st' := []) (cs' := [¬ (a1 + (nI 1)) < 0, ¬ a1 < 0, ¬ (((gI Y4.1 12 i0 1) - a1) - (nI 1)) < 0, (ix (a1 + (nI 1))) + (ix (((gI Y4.1 12 i0 1) - a1) - (nI 1))) ≤ 40, (ix a1) + (ix (((gI Y4.1 12 i0 1) - a1) - (nI 1))) ≤ 40, allw 16 i0]) (fun _ => rfl) rfl (al2 (cpok1 hc5) (al2 (cpok2 hc5) (al2 (cpok3 hc5) (al2 (cpok4 hc5) (al2 (cpok5 hc5) (al1 rfl)))))) ?_
      replace h := wr_some h
      generalize (sC Y4 16 i0 (ix (a1 + (nI 1))) 16 i0 (ix a1) (ix (((gI Y4.1 12 i0 1) - a1) - (nI 1)))) = Y6 at h ⊢
      refine w_sg k37 1 (pc' := 51) (ls' := [(0, aR 12 i0), (1, aI a1), (2, aI (nI 3))]) (st' := []) (cs' := []) (fun _ => rfl) al0 ?_
      refine w_sg k37 3 (pc' := 18) (ls' := [(0, aR 12 i0), (1, aI a1), (2, aI (nI 3))]) (st' := [aI (nI 6), aI (nI 3)]) (cs' := []) (fun _ => rfl) al0 ?_
      refine w_icmp_ge k37 rfl (fun c => absurd c (by decide)) (fun _ => ?_)
      refine w_sg k37 4 (pc' := 27) (ls' := [(0, aR 12 i0), (1, aI a1), (2, aI (nI 3))]) (st' := [aR 17 i0]) (cs' := [vp_in (nI 3) 6]) (fun _ => rfl) (al1 (vin rfl)) ?_
      refine w_sg k37 7 (pc' := 36) (ls' := [(0, aR 12 i0), (1, aI a1), (2, aI (nI 3))]) (st' := [aR 17 i0, aI (a1 + (nI 1)), aR 17 i0]) (cs' := [vp_in (nI 3) 6]) (fun _ => rfl) (al1 (vin rfl)) ?_
      obtain ⟨hc7, h⟩ := ck_some h
      refine w_sw k37 8 (Z := (sC Y6 17 i0 (ix (a1 + (nI 1))) 17 i0 (ix a1) (ix (((gI Y6.1 12 i0 1) - a1) - (nI 1))))) (pc' := 48) (ls' := [(0, aR 12 i0), (1, aI a1), (2, aI (nI 3))]) (st' := []) (cs' := [¬ (a1 + (nI 1)) < 0, ¬ a1 < 0, ¬ (((gI Y6.1 12 i0 1) - a1) - (nI 1)) < 0, (ix (a1 + (nI 1))) + (ix (((gI Y6.1 12 i0 1) - a1) - (nI 1))) ≤ 40, (ix a1) + (ix (((gI Y6.1 12 i0 1) - a1) - (nI 1))) ≤ 40, allw 17 i0]) (fun _ => rfl) rfl (al2 (cpok1 hc7) (al2 (cpok2 hc7) (al2 (cpok3 hc7) (al2 (cpok4 hc7) (al2 (cpok5 hc7) (al1 rfl)))))) ?_
      replace h := wr_some h
      generalize (sC Y6 17 i0 (ix (a1 + (nI 1))) 17 i0 (ix a1) (ix (((gI Y6.1 12 i0 1) - a1) - (nI 1)))) = Y8 at h ⊢
      refine w_sg k37 1 (pc' := 51) (ls' := [(0, aR 12 i0), (1, aI a1), (2, aI (nI 4))]) (st' := []) (cs' := []) (fun _ => rfl) al0 ?_
      refine w_sg k37 3 (pc' := 18) (ls' := [(0, aR 12 i0), (1, aI a1), (2, aI (nI 4))]) (st' := [aI (nI 6), aI (nI 4)]) (cs' := []) (fun _ => rfl) al0 ?_
      refine w_icmp_ge k37 rfl (fun c => absurd c (by decide)) (fun _ => ?_)
      refine w_sg k37 4 (pc' := 27) (ls' := [(0, aR 12 i0), (1, aI a1), (2, aI (nI 4))]) (st' := [aR 18 i0]) (cs' := [vp_in (nI 4) 6]) (fun _ => rfl) (al1 (vin rfl)) ?_
      refine w_sg k37 7 (pc' := 36) (ls' := [(0, aR 12 i0), (1, aI a1), (2, aI (nI 4))]) (st' := [aR 18 i0, aI (a1 + (nI 1)), aR 18 i0]) (cs' := [vp_in (nI 4) 6]) (fun _ => rfl) (al1 (vin rfl)) ?_
      obtain ⟨hc9, h⟩ := ck_some h
      refine w_sw k37 8 (Z := (sC Y8 18 i0 (ix (a1 + (nI 1))) 18 i0 (ix a1) (ix (((gI Y8.1 12 i0 1) - a1) - (nI 1))))) (pc' := 48) (ls' := [(0, aR 12 i0), (1, aI a1), (2, aI (nI 4))]) (st' := []) (cs' := [¬ (a1 + (nI 1)) < 0, ¬ a1 < 0, ¬ (((gI Y8.1 12 i0 1) - a1) - (nI 1)) < 0, (ix (a1 + (nI 1))) + (ix (((gI Y8.1 12 i0 1) - a1) - (nI 1))) ≤ 40, (ix a1) + (ix (((gI Y8.1 12 i0 1) - a1) - (nI 1))) ≤ 40, allw 18 i0]) (fun _ => rfl) rfl (al2 (cpok1 hc9) (al2 (cpok2 hc9) (al2 (cpok3 hc9) (al2 (cpok4 hc9) (al2 (cpok5 hc9) (al1 rfl)))))) ?_
      replace h := wr_some h
      generalize (sC Y8 18 i0 (ix (a1 + (nI 1))) 18 i0 (ix a1) (ix (((gI Y8.1 12 i0 1) - a1) - (nI 1)))) = Y10 at h ⊢
      refine w_sg k37 1 (pc' := 51) (ls' := [(0, aR 12 i0), (1, aI a1), (2, aI (nI 5))]) (st' := []) (cs' := []) (fun _ => rfl) al0 ?_
      refine w_sg k37 3 (pc' := 18) (ls' := [(0, aR 12 i0), (1, aI a1), (2, aI (nI 5))]) (st' := [aI (nI 6), aI (nI 5)]) (cs' := []) (fun _ => rfl) al0 ?_
      refine w_icmp_ge k37 rfl (fun c => absurd c (by decide)) (fun _ => ?_)
      refine w_sg k37 4 (pc' := 27) (ls' := [(0, aR 12 i0), (1, aI a1), (2, aI (nI 5))]) (st' := [aR 19 i0]) (cs' := [vp_in (nI 5) 6]) (fun _ => rfl) (al1 (vin rfl)) ?_
      refine w_sg k37 7 (pc' := 36) (ls' := [(0, aR 12 i0), (1, aI a1), (2, aI (nI 5))]) (st' := [aR 19 i0, aI (a1 + (nI 1)), aR 19 i0]) (cs' := [vp_in (nI 5) 6]) (fun _ => rfl) (al1 (vin rfl)) ?_
      obtain ⟨hc11, h⟩ := ck_some h
      refine w_sw k37 8 (Z := (sC Y10 19 i0 (ix (a1 + (nI 1))) 19 i0 (ix a1) (ix (((gI Y10.1 12 i0 1) - a1) - (nI 1))))) (pc' := 48) (ls' := [(0, aR 12 i0), (1, aI a1), (2, aI (nI 5))]) (st' := []) (cs' := [¬ (a1 + (nI 1)) < 0, ¬ a1 < 0, ¬ (((gI Y10.1 12 i0 1) - a1) - (nI 1)) < 0, (ix (a1 + (nI 1))) + (ix (((gI Y10.1 12 i0 1) - a1) - (nI 1))) ≤ 40, (ix a1) + (ix (((gI Y10.1 12 i0 1) - a1) - (nI 1))) ≤ 40, allw 19 i0]) (fun _ => rfl) rfl (al2 (cpok1 hc11) (al2 (cpok2 hc11) (al2 (cpok3 hc11) (al2 (cpok4 hc11) (al2 (cpok5 hc11) (al1 rfl)))))) ?_
      replace h := wr_some h
      generalize (sC Y10 19 i0 (ix (a1 + (nI 1))) 19 i0 (ix a1) (ix (((gI Y10.1 12 i0 1) - a1) - (nI 1)))) = Y12 at h ⊢
      refine w_sg k37 1 (pc' := 51) (ls' := [(0, aR 12 i0), (1, aI a1), (2, aI (nI 6))]) (st' := []) (cs' := []) (fun _ => rfl) al0 ?_
      refine w_sg k37 3 (pc' := 18) (ls' := [(0, aR 12 i0), (1, aI a1), (2, aI (nI 6))]) (st' := [aI (nI 6), aI (nI 6)]) (cs' := []) (fun _ => rfl) al0 ?_
      refine w_icmp_ge k37 rfl (fun _ => ?_) (fun c => absurd c (by decide))
      refine w_sw k37 6 (Z := (sI Y12 12 i0 1 ((gI Y12.1 12 i0 1) - (nI 1)))) (pc' := 64) (ls' := [(0, aR 12 i0), (1, aI a1), (2, aI (nI 6))]) (st' := []) (cs' := [allw 12 i0]) (fun _ => rfl) rfl (al1 rfl) ?_
      replace h := wr_some h
      generalize (sI Y12 12 i0 1 ((gI Y12.1 12 i0 1) - (nI 1))) = Y13 at h ⊢
      obtain rfl := Option.some.inj h
      exact w_return k37 ⟨rfl, rfl⟩
    · replace h := if_f c h
      obtain rfl := Option.some.inj h
      exact w_return k37 ⟨rfl, rfl⟩
