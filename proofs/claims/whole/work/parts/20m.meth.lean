/-! the code of the methods does what their functions say (printed by wip/whole/gen20.py) -/
set_option maxRecDepth 20000 in
set_option maxHeartbeats 4000000 in
/-- BallotBusModel.saysName -/
theorem sn_297 : ∀ (n : Nat) (a1 : Int64) {Y : Sm} (v : Unit) (Z : Sm) (h : fn_297 n a1 Y = some (v, Z)), Mt (n + 5) 0 297 [aR 48 0, aJ a1] Y (Rt none Z) nX := by
  intro n
  induction n with
  | zero => intro a1 Y v Z h; cases h
  | succ n ih =>
  intro a1 Y v Z h
  refine Mt_of [(0, aR 48 0), (1, aJ a1)] ?_
  generalize ho : (v, Z) = o at h
  have hv9 : v = o.1 := congrArg Prod.fst ho
  have hZ9 : Z = o.2 := congrArg Prod.snd ho
  clear ho
  subst hv9 hZ9
  unfold fn_297 at h
  refine w_sg k297 3 (pc' := 5) (ls' := [(0, aR 48 0), (1, aJ a1)]) (st' := [aI (lg_cmp a1 (((nI 31)).toInt64))]) (cs' := []) (fun _ => rfl) al0 ?_
  refine w_if_le k297 rfl (fun c => ?_) (fun c => ?_)
  · replace h := if_t c h
    refine w_sg k297 7 (pc' := 25) (ls' := [(0, aR 48 0), (1, aJ a1)]) (st' := [aI ((((a1 &&& (((nI 31)).toInt64))).toInt32) + (nI 96)), aR 48 0]) (cs' := []) (fun _ => rfl) al0 ?_
    obtain ⟨_, Y1, hv2, h⟩ := bd_some h
    refine w_cV0 k297 (sn_296 _ _ _ hv2) rfl (st := []) rfl ?_ (fun _ _ q => q.elim)
    obtain rfl := Option.some.inj h
    exact w_return k297 ⟨rfl, rfl⟩
  · replace h := if_f c h
    refine w_sg k297 4 (pc' := 12) (ls' := [(0, aR 48 0), (1, aJ a1)]) (st' := [aJ (a1 >>> ((nI 5).toInt64 &&& 63)), aR 48 0]) (cs' := []) (fun _ => rfl) al0 ?_
    obtain ⟨_, Y3, hv4, h⟩ := bd_some h
    refine w_cV0 k297 (ih _ _ _ hv4) rfl (st := []) rfl ?_ (fun _ _ q => q.elim) (hd := nbl _)
    refine w_sg k297 7 (pc' := 25) (ls' := [(0, aR 48 0), (1, aJ a1)]) (st' := [aI ((((a1 &&& (((nI 31)).toInt64))).toInt32) + (nI 96)), aR 48 0]) (cs' := []) (fun _ => rfl) al0 ?_
    obtain ⟨_, Y5, hv6, h⟩ := bd_some h
    refine w_cV0 k297 (sn_296 _ _ _ hv6) rfl (st := []) rfl ?_ (fun _ _ q => q.elim)
    obtain rfl := Option.some.inj h
    exact w_return k297 ⟨rfl, rfl⟩
set_option maxRecDepth 20000 in
set_option maxHeartbeats 4000000 in
/-- BallotBusModel.printOrder -/
theorem sn_298 {Y : Sm} (v : Int32) (Z : Sm) (h : fn_298 Y = some (v, Z)) : Mt 14 0 298 [aR 48 0] Y (Rt (some (aI v)) Z) nX := by
  refine Mt_of [(0, aR 48 0)] ?_
  generalize ho : (v, Z) = o at h
  have hv9 : v = o.1 := congrArg Prod.fst ho
  have hZ9 : Z = o.2 := congrArg Prod.snd ho
  clear ho
  subst hv9 hZ9
  unfold fn_298 at h
  have L12_0 : ∀ (n : Nat) (l1 : Int32) (Y : Sm), lp (fun s => fn_298_L12 s.1 s.2) n (l1, Y) = some o → Wm 14 0 298 0 12 [(0, aR 48 0), (1, aI l1)] [] Y (Rt (some (aI o.1)) o.2) nX := by
    intro n
    induction n with
    | zero => intro l1 Y h; cases h
    | succ n ih5 =>
      intro l1 Y h
      obtain ⟨q3, h, hn4⟩ := lp_succ h
      replace h : fn_298_L12 l1 Y = some q3 := h
      unfold fn_298_L12 at h
      have J42_0 : ∀ (l1 : Int32) (Y : Sm), fn_298_J42_d1 l1 Y = some q3 → Wm 14 0 298 0 42 [(0, aR 48 0), (1, aI l1)] [] Y (Rt (some (aI o.1)) o.2) nX := by
        intro l1 Y h
        unfold fn_298_J42_d1 at h
        obtain ⟨hc6, h⟩ := ck_some h
        obtain ⟨hc7, h⟩ := ck_some h
        refine w_sg k298 10 (pc' := 57) (ls' := [(0, aR 48 0), (1, aI l1)]) (st' := [aJ (gJ Y.1 50 0 (ix (gI Y.1 52 0 (ix ((nI 10) + l1))))), aR 48 0]) (cs' := [vp_in ((nI 10) + l1) 718, vp_in (gI Y.1 52 0 (ix ((nI 10) + l1))) 5]) (fun _ => rfl) (al2 (vin hc6) (al1 (vin hc7))) ?_
        obtain ⟨_, Y8, hv9, h⟩ := bd_some h
        refine w_cV0 k298 (sn_297 8 _ _ _ hv9) rfl (st := []) rfl ?_ (fun _ _ q => q.elim)
        refine w_sg k298 10 (pc' := 75) (ls' := [(0, aR 48 0), (1, aI l1)]) (st' := [aI (gI Y8.1 52 0 (ix ((nI 10) + l1))), aI (gI Y8.1 52 0 4)]) (cs' := [vp_in (nI 4) 718, vp_in ((nI 10) + l1) 718]) (fun _ => rfl) (al2 (vin rfl) (al1 (vin hc6))) ?_
        obtain ⟨v12, Y10, hv11, h⟩ := bd_some h
        refine w_cS1 k298 (sn_167 _ _ _ _ hv11) rfl (st := []) rfl ?_ (fun _ _ q => q.elim)
        refine w_if_eq k298 rfl (fun c => ?_) (fun c => ?_)
        · replace h := if_t c h
          refine w_sg k298 2 (pc' := 12) (ls' := [(0, aR 48 0), (1, aI (l1 + (nI 1)))]) (st' := []) (cs' := []) (fun _ => rfl) al0 ?_
          refine w_ls [(0, aR 48 0), (1, aI (l1 + (nI 1)))] (lq_c rfl (lq_c rfl lq_n)) ?_
          obtain rfl := Option.some.inj h
          exact ih5 _ _ (lpn_l hn4)
        · replace h := if_f c h
          refine w_sg k298 2 (pc' := 84) (ls' := [(0, aR 48 0), (1, aI l1)]) (st' := [aI (nI 42), aR 48 0]) (cs' := []) (fun _ => rfl) al0 ?_
          obtain ⟨_, Y13, hv14, h⟩ := bd_some h
          refine w_cV0 k298 (sn_296 _ _ _ hv14) rfl (st := []) rfl ?_ (fun _ _ q => q.elim)
          refine w_sg k298 2 (pc' := 12) (ls' := [(0, aR 48 0), (1, aI (l1 + (nI 1)))]) (st' := []) (cs' := []) (fun _ => rfl) al0 ?_
          refine w_ls [(0, aR 48 0), (1, aI (l1 + (nI 1)))] (lq_c rfl (lq_c rfl lq_n)) ?_
          obtain rfl := Option.some.inj h
          exact ih5 _ _ (lpn_l hn4)
      refine w_sg k298 3 (pc' := 17) (ls' := [(0, aR 48 0), (1, aI l1)]) (st' := [aI (gI Y.1 48 0 1), aI l1]) (cs' := []) (fun _ => rfl) al0 ?_
      refine w_icmp_ge k298 rfl (fun c => ?_) (fun c => ?_)
      · replace h := if_t c h
        refine w_sg k298 2 (pc' := 97) (ls' := [(0, aR 48 0), (1, aI l1)]) (st' := [aI (gI Y.1 48 0 41)]) (cs' := []) (fun _ => rfl) al0 ?_
        obtain rfl := Option.some.inj h
        obtain rfl := lpn_r hn4
        exact w_ireturn k298 ⟨rfl, rfl⟩
      · replace h := if_f c h
        refine w_sg k298 1 (pc' := 21) (ls' := [(0, aR 48 0), (1, aI l1)]) (st' := [aI l1]) (cs' := []) (fun _ => rfl) al0 ?_
        refine w_if_le k298 rfl (fun c => ?_) (fun c => ?_)
        · replace h := if_t c h
          refine w_ls [(0, aR 48 0), (1, aI l1)] (lq_c rfl (lq_c rfl lq_n)) ?_
          exact J42_0 _ _ h
        · replace h := if_f c h
          refine w_sg k298 2 (pc' := 27) (ls' := [(0, aR 48 0), (1, aI l1)]) (st' := [aI (nI 32), aR 48 0]) (cs' := []) (fun _ => rfl) al0 ?_
          obtain ⟨_, Y15, hv16, h⟩ := bd_some h
          refine w_cV0 k298 (sn_296 _ _ _ hv16) rfl (st := []) rfl ?_ (fun _ _ q => q.elim)
          refine w_sg k298 2 (pc' := 33) (ls' := [(0, aR 48 0), (1, aI l1)]) (st' := [aI (nI 62), aR 48 0]) (cs' := []) (fun _ => rfl) al0 ?_
          obtain ⟨_, Y17, hv18, h⟩ := bd_some h
          refine w_cV0 k298 (sn_296 _ _ _ hv18) rfl (st := []) rfl ?_ (fun _ _ q => q.elim)
          refine w_sg k298 2 (pc' := 39) (ls' := [(0, aR 48 0), (1, aI l1)]) (st' := [aI (nI 32), aR 48 0]) (cs' := []) (fun _ => rfl) al0 ?_
          obtain ⟨_, Y19, hv20, h⟩ := bd_some h
          refine w_cV0 k298 (sn_296 _ _ _ hv20) rfl (st := []) rfl ?_ (fun _ _ q => q.elim)
          refine w_ls [(0, aR 48 0), (1, aI l1)] (lq_c rfl (lq_c rfl lq_n)) ?_
          exact J42_0 _ _ h
  refine w_sw k298 3 (Z := (sI Y 48 0 0 (nI 0))) (pc' := 5) (ls' := [(0, aR 48 0)]) (st' := []) (cs' := [allw 48 0]) (fun _ => rfl) rfl (al1 rfl) ?_
  replace h := wr_some h
  generalize (sI Y 48 0 0 (nI 0)) = Y1 at h ⊢
  refine w_sw k298 3 (Z := (sI Y1 48 0 41 (nI 0))) (pc' := 10) (ls' := [(0, aR 48 0)]) (st' := []) (cs' := [allw 48 0]) (fun _ => rfl) rfl (al1 rfl) ?_
  replace h := wr_some h
  generalize (sI Y1 48 0 41 (nI 0)) = Y2 at h ⊢
  refine w_sg k298 2 (pc' := 12) (ls' := [(0, aR 48 0), (1, aI (nI 0))]) (st' := []) (cs' := []) (fun _ => rfl) al0 ?_
  refine w_ls [(0, aR 48 0), (1, aI (nI 0))] (lq_c rfl (lq_c rfl lq_n)) ?_
  exact L12_0 _ _ _ h
set_option maxRecDepth 20000 in
set_option maxHeartbeats 4000000 in
/-- BallotBusModel.outputByte -/
theorem sn_299 (a1 : Int32) {Y : Sm} (v : Int32) (Z : Sm) (h : fn_299 a1 Y = some (v, Z)) : Mt 5 0 299 [aR 48 0, aI a1] Y (Rt (some (aI v)) Z) nX := by
  refine Mt_of [(0, aR 48 0), (1, aI a1)] ?_
  generalize ho : (v, Z) = o at h
  have hv9 : v = o.1 := congrArg Prod.fst ho
  have hZ9 : Z = o.2 := congrArg Prod.snd ho
  clear ho
  subst hv9 hZ9
  unfold fn_299 at h
  refine w_sw k299 3 (Z := (sI Y 48 0 0 (nI 0))) (pc' := 5) (ls' := [(0, aR 48 0), (1, aI a1)]) (st' := []) (cs' := [allw 48 0]) (fun _ => rfl) rfl (al1 rfl) ?_
  replace h := wr_some h
  generalize (sI Y 48 0 0 (nI 0)) = Y1 at h ⊢
  refine w_sg k299 8 (pc' := 15) (ls' := [(0, aR 48 0), (1, aI a1)]) (st' := [aJ (((gI Y1.1 48 0 41).toInt64) - (Int64.ofNat 1)), aJ (Int64.ofNat 0), aJ ((a1).toInt64)]) (cs' := []) (fun _ => rfl) al0 ?_
  obtain ⟨v4, Y2, hv3, h⟩ := bd_some h
  refine w_cS1 k299 (sn_166 _ _ _ _ _ hv3) rfl (st := []) rfl ?_ (fun _ _ q => q.elim)
  refine w_if_eq k299 rfl (fun c => ?_) (fun c => ?_)
  · replace h := if_t c h
    refine w_sg k299 1 (pc' := 31) (ls' := [(0, aR 48 0), (1, aI a1)]) (st' := [aI (-1 : Int32)]) (cs' := []) (fun _ => rfl) al0 ?_
    obtain rfl := Option.some.inj h
    exact w_ireturn k299 ⟨rfl, rfl⟩
  · replace h := if_f c h
    obtain ⟨hc5, h⟩ := ck_some h
    refine w_sg k299 5 (pc' := 31) (ls' := [(0, aR 48 0), (1, aI a1)]) (st' := [aI (gI Y2.1 65 0 (ix a1))]) (cs' := [vp_in a1 60]) (fun _ => rfl) (al1 (vin hc5)) ?_
    obtain rfl := Option.some.inj h
    exact w_ireturn k299 ⟨rfl, rfl⟩
