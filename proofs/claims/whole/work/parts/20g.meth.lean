/-! the code of the methods does what their functions say (printed by wip/whole/gen20.py) -/
set_option maxRecDepth 20000 in
set_option maxHeartbeats 4000000 in
/-- BallotBus.saveState -/
theorem sn_152 {Y : Sm} (v : Int32) (Z : Sm) (h : fn_152 Y = some (v, Z)) : Mt 6 0 152 [aR 0 0] Y (Rt (some (aI v)) Z) nX := by
  refine Mt_of [(0, aR 0 0)] ?_
  generalize ho : (v, Z) = o at h
  have hv9 : v = o.1 := congrArg Prod.fst ho
  have hZ9 : Z = o.2 := congrArg Prod.snd ho
  clear ho
  subst hv9 hZ9
  unfold fn_152 at h
  refine w_sg k152 4 (pc' := 8) (ls' := [(0, aR 0 0)]) (st' := [aR 21 0, aR 21 2]) (cs' := []) (fun _ => rfl) al0 ?_
  obtain ⟨_, Y1, hv2, h⟩ := bd_some h
  refine w_cV0 k152 (sn_72 _ _ _ _ hv2) rfl (st := []) rfl ?_ (fun _ _ q => q.elim)
  refine w_sw k152 3 (Z := (sI Y1 0 0 11 (nI 1))) (pc' := 16) (ls' := [(0, aR 0 0)]) (st' := []) (cs' := [allw 0 0, (nI 1) = 0 ∨ (nI 1) = 1]) (fun _ => rfl) rfl (al2 rfl (al1 (Or.inr rfl))) ?_
  replace h := wr_some h
  generalize (sI Y1 0 0 11 (nI 1)) = Y3 at h ⊢
  refine w_sg k152 3 (pc' := 23) (ls' := [(0, aR 0 0)]) (st' := [aI (gI Y3.1 21 0 1)]) (cs' := []) (fun _ => rfl) al0 ?_
  obtain rfl := Option.some.inj h
  exact w_ireturn k152 ⟨rfl, rfl⟩
set_option maxRecDepth 20000 in
set_option maxHeartbeats 4000000 in
/-- BallotBus.restoreState -/
theorem sn_153 {Y : Sm} (v : (Int32 ⊕ Nat)) (Z : Sm) (h : fn_153 Y = some (v, Z)) : Mt 6 1 153 [aR 0 0] Y (Pz (fun v => some (aI v)) v Z) (Ez v Z) := by
  refine Mt_of [(0, aR 0 0)] ?_
  generalize ho : (v, Z) = o at h
  have hv9 : v = o.1 := congrArg Prod.fst ho
  have hZ9 : Z = o.2 := congrArg Prod.snd ho
  clear ho
  subst hv9 hZ9
  unfold fn_153 at h
  refine w_sg k153 2 (pc' := 4) (ls' := [(0, aR 0 0)]) (st' := [aI (gI Y.1 0 0 11)]) (cs' := []) (fun _ => rfl) al0 ?_
  refine w_if_ne k153 rfl (fun c => ?_) (fun c => ?_)
  · replace h := if_f c h
    refine w_sg k153 4 (pc' := 26) (ls' := [(0, aR 0 0)]) (st' := [aR 21 2, aR 21 0]) (cs' := []) (fun _ => rfl) al0 ?_
    obtain ⟨_, Y1, hv2, h⟩ := bd_some h
    refine w_cV0 k153 (sn_72 _ _ _ _ hv2) rfl (st := []) rfl ?_ (fun _ _ q => q.elim)
    refine w_sw k153 4 (Z := (sI Y1 37 0 2 (nI 0))) (pc' := 37) (ls' := [(0, aR 0 0)]) (st' := []) (cs' := [allw 37 0]) (fun _ => rfl) rfl (al1 rfl) ?_
    replace h := wr_some h
    generalize (sI Y1 37 0 2 (nI 0)) = Y3 at h ⊢
    refine w_sg k153 3 (pc' := 44) (ls' := [(0, aR 0 0)]) (st' := [aI (gI Y3.1 21 0 1)]) (cs' := []) (fun _ => rfl) al0 ?_
    obtain rfl := Option.some.inj h
    exact w_ireturn k153 Pz_l
  · replace h := if_t c h
    obtain rfl := Option.some.inj h
    exact w_throw k153 rfl rfl Ez_r
set_option maxRecDepth 20000 in
set_option maxHeartbeats 4000000 in
/-- BallotBusModel.thrown -/
theorem sn_163 {Y : Sm} (v : Int32) (Z : Sm) (h : fn_163 Y = some (v, Z)) : Mt 4 0 163 [aR 48 0] Y (Rt (some (aI v)) Z) nX := by
  refine Mt_of [(0, aR 48 0)] ?_
  generalize ho : (v, Z) = o at h
  have hv9 : v = o.1 := congrArg Prod.fst ho
  have hZ9 : Z = o.2 := congrArg Prod.snd ho
  clear ho
  subst hv9 hZ9
  unfold fn_163 at h
  refine w_sg k163 2 (pc' := 4) (ls' := [(0, aR 48 0)]) (st' := [aI (gI Y.1 48 0 0)]) (cs' := []) (fun _ => rfl) al0 ?_
  obtain rfl := Option.some.inj h
  exact w_ireturn k163 ⟨rfl, rfl⟩
set_option maxRecDepth 20000 in
set_option maxHeartbeats 4000000 in
/-- BallotBusModel.is -/
theorem sn_164 (a1 : Int32) {Y : Sm} (v : Int32) (Z : Sm) (h : fn_164 a1 Y = some (v, Z)) : Mt 4 0 164 [aR 48 0, aI a1] Y (Rt (some (aI v)) Z) nX := by
  refine Mt_of [(0, aR 48 0), (1, aI a1)] ?_
  generalize ho : (v, Z) = o at h
  have hv9 : v = o.1 := congrArg Prod.fst ho
  have hZ9 : Z = o.2 := congrArg Prod.snd ho
  clear ho
  subst hv9 hZ9
  unfold fn_164 at h
  refine w_sg k164 2 (pc' := 2) (ls' := [(0, aR 48 0), (1, aI a1)]) (st' := [aI a1, aR 48 0]) (cs' := []) (fun _ => rfl) al0 ?_
  refine w_if_eq k164 rfl (fun c => ?_) (fun c => ?_)
  · replace h := if_t c h
    refine w_sw k164 2 (Z := (sI Y 48 0 0 (nI 1))) (pc' := 13) (ls' := [(0, aR 48 0), (1, aI a1)]) (st' := []) (cs' := [allw 48 0]) (fun _ => rfl) rfl (al1 rfl) ?_
    replace h := wr_some h
    generalize (sI Y 48 0 0 (nI 1)) = Y1 at h ⊢
    obtain ⟨hc2, h⟩ := ck_some h
    refine w_sg k164 1 (pc' := 14) (ls' := [(0, aR 48 0), (1, aI a1)]) (st' := [aI a1]) (cs' := []) (fun _ => rfl) al0 ?_
    obtain rfl := Option.some.inj h
    exact w_zreturn k164 (bz_or hc2) ⟨rfl, rfl⟩
  · replace h := if_f c h
    refine w_sw k164 3 (Z := (sI Y 48 0 0 (nI 0))) (pc' := 13) (ls' := [(0, aR 48 0), (1, aI a1)]) (st' := []) (cs' := [allw 48 0]) (fun _ => rfl) rfl (al1 rfl) ?_
    replace h := wr_some h
    generalize (sI Y 48 0 0 (nI 0)) = Y3 at h ⊢
    obtain ⟨hc4, h⟩ := ck_some h
    refine w_sg k164 1 (pc' := 14) (ls' := [(0, aR 48 0), (1, aI a1)]) (st' := [aI a1]) (cs' := []) (fun _ => rfl) al0 ?_
    obtain rfl := Option.some.inj h
    exact w_zreturn k164 (bz_or hc4) ⟨rfl, rfl⟩
set_option maxRecDepth 20000 in
set_option maxHeartbeats 4000000 in
/-- BallotBusModel.undo -/
theorem sn_173 {Y : Sm} (v : Int32) (Z : Sm) (h : fn_173 Y = some (v, Z)) : Mt 5 0 173 [aR 48 0] Y (Rt (some (aI v)) Z) nX := by
  refine Mt_of [(0, aR 48 0)] ?_
  generalize ho : (v, Z) = o at h
  have hv9 : v = o.1 := congrArg Prod.fst ho
  have hZ9 : Z = o.2 := congrArg Prod.snd ho
  clear ho
  subst hv9 hZ9
  unfold fn_173 at h
  have L33_0 : ∀ (n : Nat) (l1 : Int32) (Y : Sm), lp (fun s => fn_173_L33 s.1 s.2) n (l1, Y) = some o → Wm 5 0 173 0 33 [(0, aR 48 0), (1, aI l1)] [] Y (Rt (some (aI o.1)) o.2) nX := by
    intro n
    induction n with
    | zero => intro l1 Y h; cases h
    | succ n ih7 =>
      intro l1 Y h
      obtain ⟨q5, h, hn6⟩ := lp_succ h
      replace h : fn_173_L33 l1 Y = some q5 := h
      unfold fn_173_L33 at h
      refine w_sg k173 2 (pc' := 37) (ls' := [(0, aR 48 0), (1, aI l1)]) (st' := [aI (nI 718), aI l1]) (cs' := []) (fun _ => rfl) al0 ?_
      refine w_icmp_ge k173 rfl (fun c => ?_) (fun c => ?_)
      · replace h := if_t c h
        refine w_sg k173 2 (pc' := 71) (ls' := [(0, aR 48 0), (1, aI l1)]) (st' := [aI (gI Y.1 48 0 17)]) (cs' := []) (fun _ => rfl) al0 ?_
        obtain rfl := Option.some.inj h
        obtain rfl := lpn_r hn6
        exact w_ireturn k173 ⟨rfl, rfl⟩
      · replace h := if_f c h
        obtain ⟨hc8, h⟩ := ck_some h
        obtain ⟨hc9, h⟩ := ck_some h
        refine w_sw k173 13 (Z := (sI Y 52 0 (ix l1) (gI Y.1 57 0 (ix (((nI 718) * (gI Y.1 48 0 17)) + l1))))) (pc' := 61) (ls' := [(0, aR 48 0), (1, aI l1)]) (st' := []) (cs' := [vp_in (((nI 718) * (gI Y.1 48 0 17)) + l1) 5744, vp_in l1 718, allw 52 0]) (fun _ => rfl) rfl (al2 (vin hc8) (al2 (vin hc9) (al1 rfl))) ?_
        replace h := wr_some h
        generalize (sI Y 52 0 (ix l1) (gI Y.1 57 0 (ix (((nI 718) * (gI Y.1 48 0 17)) + l1)))) = Y10 at h ⊢
        refine w_sg k173 2 (pc' := 33) (ls' := [(0, aR 48 0), (1, aI (l1 + (nI 1)))]) (st' := []) (cs' := []) (fun _ => rfl) al0 ?_
        refine w_ls [(0, aR 48 0), (1, aI (l1 + (nI 1)))] (lq_c rfl (lq_c rfl lq_n)) ?_
        obtain rfl := Option.some.inj h
        exact ih7 _ _ (lpn_l hn6)
  have J13_0 : ∀ (t0 : Int32) (Y : Sm), fn_173_J13 t0 Y = some o → Wm 5 0 173 0 13 [(0, aR 48 0)] [aI t0, aR 48 0] Y (Rt (some (aI o.1)) o.2) nX := by
    intro t0 Y h
    unfold fn_173_J13 at h
    obtain ⟨v3, Y1, hv2, h⟩ := bd_some h
    refine w_cV1 k173 (sn_164 _ _ _ hv2) rfl (st := []) rfl ?_ (fun _ _ q => q.elim)
    refine w_if_ne k173 rfl (fun c => ?_) (fun c => ?_)
    · replace h := if_f c h
      refine w_sw k173 6 (Z := (sI Y1 48 0 17 ((gI Y1.1 48 0 17) - (nI 1)))) (pc' := 31) (ls' := [(0, aR 48 0)]) (st' := []) (cs' := [allw 48 0]) (fun _ => rfl) rfl (al1 rfl) ?_
      replace h := wr_some h
      generalize (sI Y1 48 0 17 ((gI Y1.1 48 0 17) - (nI 1))) = Y4 at h ⊢
      refine w_sg k173 2 (pc' := 33) (ls' := [(0, aR 48 0), (1, aI (nI 0))]) (st' := []) (cs' := []) (fun _ => rfl) al0 ?_
      refine w_ls [(0, aR 48 0), (1, aI (nI 0))] (lq_c rfl (lq_c rfl lq_n)) ?_
      exact L33_0 _ _ _ h
    · replace h := if_t c h
      refine w_sg k173 1 (pc' := 20) (ls' := [(0, aR 48 0)]) (st' := [aI (nI 0)]) (cs' := []) (fun _ => rfl) al0 ?_
      obtain rfl := Option.some.inj h
      exact w_ireturn k173 ⟨rfl, rfl⟩
  refine w_sg k173 3 (pc' := 5) (ls' := [(0, aR 48 0)]) (st' := [aI (gI Y.1 48 0 17), aR 48 0]) (cs' := []) (fun _ => rfl) al0 ?_
  refine w_if_le k173 rfl (fun c => ?_) (fun c => ?_)
  · replace h := if_t c h
    refine w_sg k173 1 (pc' := 13) (ls' := [(0, aR 48 0)]) (st' := [aI (nI 0), aR 48 0]) (cs' := []) (fun _ => rfl) al0 ?_
    refine w_ls [(0, aR 48 0)] (lq_c rfl lq_n) ?_
    exact J13_0 _ _ h
  · replace h := if_f c h
    refine w_sg k173 2 (pc' := 13) (ls' := [(0, aR 48 0)]) (st' := [aI (nI 1), aR 48 0]) (cs' := []) (fun _ => rfl) al0 ?_
    refine w_ls [(0, aR 48 0)] (lq_c rfl lq_n) ?_
    exact J13_0 _ _ h
set_option maxRecDepth 20000 in
set_option maxHeartbeats 4000000 in
/-- BallotBusModel.copies -/
theorem sn_170_52_56 {Y : Sm} (v : Unit) (Z : Sm) (h : fn_170_52_56 Y = some (v, Z)) : Mt 4 0 170 [aR 52 0, aR 56 0] Y (Rt none Z) nX := by
  refine Mt_of [(0, aR 52 0), (1, aR 56 0)] ?_
  generalize ho : (v, Z) = o at h
  have hv9 : v = o.1 := congrArg Prod.fst ho
  have hZ9 : Z = o.2 := congrArg Prod.snd ho
  clear ho
  subst hv9 hZ9
  unfold fn_170_52_56 at h
  have L2_0 : ∀ (n : Nat) (l2 : Int32) (Y : Sm), lp (fun s => fn_170_52_56_L2 s.1 s.2) n (l2, Y) = some o → Wm 4 0 170 0 2 [(0, aR 52 0), (1, aR 56 0), (2, aI l2)] [] Y (Rt none o.2) nX := by
    intro n
    induction n with
    | zero => intro l2 Y h; cases h
    | succ n ih3 =>
      intro l2 Y h
      obtain ⟨q1, h, hn2⟩ := lp_succ h
      replace h : fn_170_52_56_L2 l2 Y = some q1 := h
      unfold fn_170_52_56_L2 at h
      refine w_sg k170 2 (pc' := 6) (ls' := [(0, aR 52 0), (1, aR 56 0), (2, aI l2)]) (st' := [aI (nI 718), aI l2]) (cs' := []) (fun _ => rfl) al0 ?_
      refine w_icmp_ge k170 rfl (fun c => ?_) (fun c => ?_)
      · replace h := if_t c h
        obtain rfl := Option.some.inj h
        obtain rfl := lpn_r hn2
        exact w_return k170 ⟨rfl, rfl⟩
      · replace h := if_f c h
        obtain ⟨hc4, h⟩ := ck_some h
        refine w_sw k170 6 (Z := (sI Y 56 0 (ix l2) (gI Y.1 52 0 (ix l2)))) (pc' := 15) (ls' := [(0, aR 52 0), (1, aR 56 0), (2, aI l2)]) (st' := []) (cs' := [vp_in l2 718, vp_in l2 718, allw 56 0]) (fun _ => rfl) rfl (al2 (vin hc4) (al2 (vin hc4) (al1 rfl))) ?_
        replace h := wr_some h
        generalize (sI Y 56 0 (ix l2) (gI Y.1 52 0 (ix l2))) = Y5 at h ⊢
        refine w_sg k170 2 (pc' := 2) (ls' := [(0, aR 52 0), (1, aR 56 0), (2, aI (l2 + (nI 1)))]) (st' := []) (cs' := []) (fun _ => rfl) al0 ?_
        refine w_ls [(0, aR 52 0), (1, aR 56 0), (2, aI (l2 + (nI 1)))] (lq_c rfl (lq_c rfl (lq_c rfl lq_n))) ?_
        obtain rfl := Option.some.inj h
        exact ih3 _ _ (lpn_l hn2)
  refine w_sg k170 2 (pc' := 2) (ls' := [(0, aR 52 0), (1, aR 56 0), (2, aI (nI 0))]) (st' := []) (cs' := []) (fun _ => rfl) al0 ?_
  refine w_ls [(0, aR 52 0), (1, aR 56 0), (2, aI (nI 0))] (lq_c rfl (lq_c rfl (lq_c rfl lq_n))) ?_
  exact L2_0 _ _ _ h
set_option maxRecDepth 20000 in
set_option maxHeartbeats 4000000 in
/-- BallotBusModel.saveState -/
theorem sn_174 {Y : Sm} (v : Int32) (Z : Sm) (h : fn_174 Y = some (v, Z)) : Mt 5 0 174 [aR 48 0] Y (Rt (some (aI v)) Z) nX := by
  refine Mt_of [(0, aR 48 0)] ?_
  generalize ho : (v, Z) = o at h
  have hv9 : v = o.1 := congrArg Prod.fst ho
  have hZ9 : Z = o.2 := congrArg Prod.snd ho
  clear ho
  subst hv9 hZ9
  unfold fn_174 at h
  refine w_sw k174 3 (Z := (sI Y 48 0 0 (nI 0))) (pc' := 5) (ls' := [(0, aR 48 0)]) (st' := []) (cs' := [allw 48 0]) (fun _ => rfl) rfl (al1 rfl) ?_
  replace h := wr_some h
  generalize (sI Y 48 0 0 (nI 0)) = Y1 at h ⊢
  refine w_sg k174 4 (pc' := 13) (ls' := [(0, aR 48 0)]) (st' := [aR 56 0, aR 52 0]) (cs' := []) (fun _ => rfl) al0 ?_
  obtain ⟨_, Y2, hv3, h⟩ := bd_some h
  refine w_cS0 k174 (sn_170_52_56  _ _ hv3) rfl (st := []) rfl ?_ (fun _ _ q => q.elim)
  refine w_sw k174 3 (Z := (sI Y2 48 0 18 (nI 1))) (pc' := 21) (ls' := [(0, aR 48 0)]) (st' := []) (cs' := [allw 48 0, (nI 1) = 0 ∨ (nI 1) = 1]) (fun _ => rfl) rfl (al2 rfl (al1 (Or.inr rfl))) ?_
  replace h := wr_some h
  generalize (sI Y2 48 0 18 (nI 1)) = Y4 at h ⊢
  refine w_sg k174 4 (pc' := 27) (ls' := [(0, aR 48 0)]) (st' := [aI (gI Y4.1 52 0 0)]) (cs' := [vp_in (nI 0) 718]) (fun _ => rfl) (al1 (vin rfl)) ?_
  obtain rfl := Option.some.inj h
  exact w_ireturn k174 ⟨rfl, rfl⟩
set_option maxRecDepth 20000 in
set_option maxHeartbeats 4000000 in
/-- BallotBusModel.copies -/
theorem sn_170_56_52 {Y : Sm} (v : Unit) (Z : Sm) (h : fn_170_56_52 Y = some (v, Z)) : Mt 4 0 170 [aR 56 0, aR 52 0] Y (Rt none Z) nX := by
  refine Mt_of [(0, aR 56 0), (1, aR 52 0)] ?_
  generalize ho : (v, Z) = o at h
  have hv9 : v = o.1 := congrArg Prod.fst ho
  have hZ9 : Z = o.2 := congrArg Prod.snd ho
  clear ho
  subst hv9 hZ9
  unfold fn_170_56_52 at h
  have L2_0 : ∀ (n : Nat) (l2 : Int32) (Y : Sm), lp (fun s => fn_170_56_52_L2 s.1 s.2) n (l2, Y) = some o → Wm 4 0 170 0 2 [(0, aR 56 0), (1, aR 52 0), (2, aI l2)] [] Y (Rt none o.2) nX := by
    intro n
    induction n with
    | zero => intro l2 Y h; cases h
    | succ n ih3 =>
      intro l2 Y h
      obtain ⟨q1, h, hn2⟩ := lp_succ h
      replace h : fn_170_56_52_L2 l2 Y = some q1 := h
      unfold fn_170_56_52_L2 at h
      refine w_sg k170 2 (pc' := 6) (ls' := [(0, aR 56 0), (1, aR 52 0), (2, aI l2)]) (st' := [aI (nI 718), aI l2]) (cs' := []) (fun _ => rfl) al0 ?_
      refine w_icmp_ge k170 rfl (fun c => ?_) (fun c => ?_)
      · replace h := if_t c h
        obtain rfl := Option.some.inj h
        obtain rfl := lpn_r hn2
        exact w_return k170 ⟨rfl, rfl⟩
      · replace h := if_f c h
        obtain ⟨hc4, h⟩ := ck_some h
        refine w_sw k170 6 (Z := (sI Y 52 0 (ix l2) (gI Y.1 56 0 (ix l2)))) (pc' := 15) (ls' := [(0, aR 56 0), (1, aR 52 0), (2, aI l2)]) (st' := []) (cs' := [vp_in l2 718, vp_in l2 718, allw 52 0]) (fun _ => rfl) rfl (al2 (vin hc4) (al2 (vin hc4) (al1 rfl))) ?_
        replace h := wr_some h
        generalize (sI Y 52 0 (ix l2) (gI Y.1 56 0 (ix l2))) = Y5 at h ⊢
        refine w_sg k170 2 (pc' := 2) (ls' := [(0, aR 56 0), (1, aR 52 0), (2, aI (l2 + (nI 1)))]) (st' := []) (cs' := []) (fun _ => rfl) al0 ?_
        refine w_ls [(0, aR 56 0), (1, aR 52 0), (2, aI (l2 + (nI 1)))] (lq_c rfl (lq_c rfl (lq_c rfl lq_n))) ?_
        obtain rfl := Option.some.inj h
        exact ih3 _ _ (lpn_l hn2)
  refine w_sg k170 2 (pc' := 2) (ls' := [(0, aR 56 0), (1, aR 52 0), (2, aI (nI 0))]) (st' := []) (cs' := []) (fun _ => rfl) al0 ?_
  refine w_ls [(0, aR 56 0), (1, aR 52 0), (2, aI (nI 0))] (lq_c rfl (lq_c rfl (lq_c rfl lq_n))) ?_
  exact L2_0 _ _ _ h
set_option maxRecDepth 20000 in
set_option maxHeartbeats 4000000 in
/-- BallotBusModel.restoreState -/
theorem sn_175 {Y : Sm} (v : Int32) (Z : Sm) (h : fn_175 Y = some (v, Z)) : Mt 5 0 175 [aR 48 0] Y (Rt (some (aI v)) Z) nX := by
  refine Mt_of [(0, aR 48 0)] ?_
  generalize ho : (v, Z) = o at h
  have hv9 : v = o.1 := congrArg Prod.fst ho
  have hZ9 : Z = o.2 := congrArg Prod.snd ho
  clear ho
  subst hv9 hZ9
  unfold fn_175 at h
  refine w_sg k175 3 (pc' := 5) (ls' := [(0, aR 48 0)]) (st' := [aI (gI Y.1 48 0 18), aR 48 0]) (cs' := []) (fun _ => rfl) al0 ?_
  obtain ⟨v3, Y1, hv2, h⟩ := bd_some h
  refine w_cV1 k175 (sn_164 _ _ _ hv2) rfl (st := []) rfl ?_ (fun _ _ q => q.elim)
  refine w_if_ne k175 rfl (fun c => ?_) (fun c => ?_)
  · replace h := if_f c h
    refine w_sg k175 4 (pc' := 21) (ls' := [(0, aR 48 0)]) (st' := [aR 52 0, aR 56 0]) (cs' := []) (fun _ => rfl) al0 ?_
    obtain ⟨_, Y4, hv5, h⟩ := bd_some h
    refine w_cS0 k175 (sn_170_56_52  _ _ hv5) rfl (st := []) rfl ?_ (fun _ _ q => q.elim)
    refine w_sw k175 3 (Z := (sI Y4 48 0 17 (nI 0))) (pc' := 29) (ls' := [(0, aR 48 0)]) (st' := []) (cs' := [allw 48 0]) (fun _ => rfl) rfl (al1 rfl) ?_
    replace h := wr_some h
    generalize (sI Y4 48 0 17 (nI 0)) = Y6 at h ⊢
    refine w_sg k175 4 (pc' := 35) (ls' := [(0, aR 48 0)]) (st' := [aI (gI Y6.1 52 0 0)]) (cs' := [vp_in (nI 0) 718]) (fun _ => rfl) (al1 (vin rfl)) ?_
    obtain rfl := Option.some.inj h
    exact w_ireturn k175 ⟨rfl, rfl⟩
  · replace h := if_t c h
    refine w_sg k175 1 (pc' := 12) (ls' := [(0, aR 48 0)]) (st' := [aI (nI 0)]) (cs' := []) (fun _ => rfl) al0 ?_
    obtain rfl := Option.some.inj h
    exact w_ireturn k175 ⟨rfl, rfl⟩
set_option maxRecDepth 20000 in
set_option maxHeartbeats 4000000 in
/-- BallotBusModel.isIn -/
theorem sn_166 (a0 : Int64) (a1 : Int64) (a2 : Int64) {Y : Sm} (v : Int32) (Z : Sm) (h : fn_166 a0 a1 a2 Y = some (v, Z)) : Mt 4 0 166 [aJ a0, aJ a1, aJ a2] Y (Rt (some (aI v)) Z) nX := by
  refine Mt_of [(0, aJ a0), (2, aJ a1), (4, aJ a2)] ?_
  generalize ho : (v, Z) = o at h
  have hv9 : v = o.1 := congrArg Prod.fst ho
  have hZ9 : Z = o.2 := congrArg Prod.snd ho
  clear ho
  subst hv9 hZ9
  unfold fn_166 at h
  refine w_sg k166 3 (pc' := 3) (ls' := [(0, aJ a0), (2, aJ a1), (4, aJ a2)]) (st' := [aI (lg_cmp a0 a1)]) (cs' := []) (fun _ => rfl) al0 ?_
  refine w_if_lt k166 rfl (fun c => ?_) (fun c => ?_)
  · replace h := if_t c h
    refine w_sg k166 1 (pc' := 18) (ls' := [(0, aJ a0), (2, aJ a1), (4, aJ a2)]) (st' := [aI (nI 0)]) (cs' := []) (fun _ => rfl) al0 ?_
    obtain rfl := Option.some.inj h
    exact w_zreturn k166 (Or.inl rfl) ⟨rfl, rfl⟩
  · replace h := if_f c h
    refine w_sg k166 3 (pc' := 10) (ls' := [(0, aJ a0), (2, aJ a1), (4, aJ a2)]) (st' := [aI (lg_cmp a0 a2)]) (cs' := []) (fun _ => rfl) al0 ?_
    refine w_if_gt k166 rfl (fun c => ?_) (fun c => ?_)
    · replace h := if_t c h
      refine w_sg k166 1 (pc' := 18) (ls' := [(0, aJ a0), (2, aJ a1), (4, aJ a2)]) (st' := [aI (nI 0)]) (cs' := []) (fun _ => rfl) al0 ?_
      obtain rfl := Option.some.inj h
      exact w_zreturn k166 (Or.inl rfl) ⟨rfl, rfl⟩
    · replace h := if_f c h
      refine w_sg k166 2 (pc' := 18) (ls' := [(0, aJ a0), (2, aJ a1), (4, aJ a2)]) (st' := [aI (nI 1)]) (cs' := []) (fun _ => rfl) al0 ?_
      obtain rfl := Option.some.inj h
      exact w_zreturn k166 (Or.inr rfl) ⟨rfl, rfl⟩
set_option maxRecDepth 20000 in
set_option maxHeartbeats 4000000 in
/-- BallotBusModel.areTicks -/
theorem sn_210 (a0 : Int32) {Y : Sm} (v : Int32) (Z : Sm) (h : fn_210 a0 Y = some (v, Z)) : Mt 5 0 210 [aI a0] Y (Rt (some (aI v)) Z) nX := by
  refine Mt_of [(0, aI a0)] ?_
  generalize ho : (v, Z) = o at h
  have hv9 : v = o.1 := congrArg Prod.fst ho
  have hZ9 : Z = o.2 := congrArg Prod.snd ho
  clear ho
  subst hv9 hZ9
  unfold fn_210 at h
  refine w_sg k210 4 (pc' := 6) (ls' := [(0, aI a0)]) (st' := [aJ (((nI 500)).toInt64), aJ (Int64.ofNat 1), aJ ((a0).toInt64)]) (cs' := []) (fun _ => rfl) al0 ?_
  obtain ⟨v3, Y1, hv2, h⟩ := bd_some h
  refine w_cS1 k210 (sn_166 _ _ _ _ _ hv2) rfl (st := []) rfl ?_ (fun _ _ q => q.elim)
  obtain ⟨hc4, h⟩ := ck_some h
  obtain rfl := Option.some.inj h
  exact w_zreturn k210 (bz_or hc4) ⟨rfl, rfl⟩
set_option maxRecDepth 20000 in
set_option maxHeartbeats 4000000 in
/-- BallotBusModel.copies -/
theorem sn_170_52_54 {Y : Sm} (v : Unit) (Z : Sm) (h : fn_170_52_54 Y = some (v, Z)) : Mt 4 0 170 [aR 52 0, aR 54 0] Y (Rt none Z) nX := by
  refine Mt_of [(0, aR 52 0), (1, aR 54 0)] ?_
  generalize ho : (v, Z) = o at h
  have hv9 : v = o.1 := congrArg Prod.fst ho
  have hZ9 : Z = o.2 := congrArg Prod.snd ho
  clear ho
  subst hv9 hZ9
  unfold fn_170_52_54 at h
  have L2_0 : ∀ (n : Nat) (l2 : Int32) (Y : Sm), lp (fun s => fn_170_52_54_L2 s.1 s.2) n (l2, Y) = some o → Wm 4 0 170 0 2 [(0, aR 52 0), (1, aR 54 0), (2, aI l2)] [] Y (Rt none o.2) nX := by
    intro n
    induction n with
    | zero => intro l2 Y h; cases h
    | succ n ih3 =>
      intro l2 Y h
      obtain ⟨q1, h, hn2⟩ := lp_succ h
      replace h : fn_170_52_54_L2 l2 Y = some q1 := h
      unfold fn_170_52_54_L2 at h
      refine w_sg k170 2 (pc' := 6) (ls' := [(0, aR 52 0), (1, aR 54 0), (2, aI l2)]) (st' := [aI (nI 718), aI l2]) (cs' := []) (fun _ => rfl) al0 ?_
      refine w_icmp_ge k170 rfl (fun c => ?_) (fun c => ?_)
      · replace h := if_t c h
        obtain rfl := Option.some.inj h
        obtain rfl := lpn_r hn2
        exact w_return k170 ⟨rfl, rfl⟩
      · replace h := if_f c h
        obtain ⟨hc4, h⟩ := ck_some h
        refine w_sw k170 6 (Z := (sI Y 54 0 (ix l2) (gI Y.1 52 0 (ix l2)))) (pc' := 15) (ls' := [(0, aR 52 0), (1, aR 54 0), (2, aI l2)]) (st' := []) (cs' := [vp_in l2 718, vp_in l2 718, allw 54 0]) (fun _ => rfl) rfl (al2 (vin hc4) (al2 (vin hc4) (al1 rfl))) ?_
        replace h := wr_some h
        generalize (sI Y 54 0 (ix l2) (gI Y.1 52 0 (ix l2))) = Y5 at h ⊢
        refine w_sg k170 2 (pc' := 2) (ls' := [(0, aR 52 0), (1, aR 54 0), (2, aI (l2 + (nI 1)))]) (st' := []) (cs' := []) (fun _ => rfl) al0 ?_
        refine w_ls [(0, aR 52 0), (1, aR 54 0), (2, aI (l2 + (nI 1)))] (lq_c rfl (lq_c rfl (lq_c rfl lq_n))) ?_
        obtain rfl := Option.some.inj h
        exact ih3 _ _ (lpn_l hn2)
  refine w_sg k170 2 (pc' := 2) (ls' := [(0, aR 52 0), (1, aR 54 0), (2, aI (nI 0))]) (st' := []) (cs' := []) (fun _ => rfl) al0 ?_
  refine w_ls [(0, aR 52 0), (1, aR 54 0), (2, aI (nI 0))] (lq_c rfl (lq_c rfl (lq_c rfl lq_n))) ?_
  exact L2_0 _ _ _ h
set_option maxRecDepth 20000 in
set_option maxHeartbeats 4000000 in
/-- BallotBusModel.starts -/
theorem sn_171 {Y : Sm} (v : Unit) (Z : Sm) (h : fn_171 Y = some (v, Z)) : Mt 5 0 171 [aR 48 0] Y (Rt none Z) nX := by
  refine Mt_of [(0, aR 48 0)] ?_
  generalize ho : (v, Z) = o at h
  have hv9 : v = o.1 := congrArg Prod.fst ho
  have hZ9 : Z = o.2 := congrArg Prod.snd ho
  clear ho
  subst hv9 hZ9
  unfold fn_171 at h
  refine w_sg k171 4 (pc' := 8) (ls' := [(0, aR 48 0)]) (st' := [aR 54 0, aR 52 0]) (cs' := []) (fun _ => rfl) al0 ?_
  obtain ⟨_, Y1, hv2, h⟩ := bd_some h
  refine w_cS0 k171 (sn_170_52_54  _ _ hv2) rfl (st := []) rfl ?_ (fun _ _ q => q.elim)
  obtain rfl := Option.some.inj h
  exact w_return k171 ⟨rfl, rfl⟩
set_option maxRecDepth 20000 in
set_option maxHeartbeats 4000000 in
/-- BallotBusModel.answeredOf -/
theorem sn_206 (a1 : Int32) {Y : Sm} (v : Int32) (Z : Sm) (h : fn_206 a1 Y = some (v, Z)) : Mt 4 0 206 [aR 48 0, aI a1] Y (Rt (some (aI v)) Z) nX := by
  refine Mt_of [(0, aR 48 0), (1, aI a1)] ?_
  generalize ho : (v, Z) = o at h
  have hv9 : v = o.1 := congrArg Prod.fst ho
  have hZ9 : Z = o.2 := congrArg Prod.snd ho
  clear ho
  subst hv9 hZ9
  unfold fn_206 at h
  refine w_sg k206 2 (pc' := 2) (ls' := [(0, aR 48 0), (1, aI a1)]) (st' := [aI (-1 : Int32), aI a1]) (cs' := []) (fun _ => rfl) al0 ?_
  refine w_icmp_ne k206 rfl (fun c => ?_) (fun c => ?_)
  · replace h := if_f c h
    obtain ⟨hc1, h⟩ := ck_some h
    refine w_sg k206 6 (pc' := 24) (ls' := [(0, aR 48 0), (1, aI a1)]) (st' := [aI (gI Y.1 52 0 (ix ((nI 52) + a1)))]) (cs' := [vp_in ((nI 52) + a1) 718]) (fun _ => rfl) (al1 (vin hc1)) ?_
    obtain rfl := Option.some.inj h
    exact w_ireturn k206 ⟨rfl, rfl⟩
  · replace h := if_t c h
    refine w_sg k206 5 (pc' := 24) (ls' := [(0, aR 48 0), (1, aI a1)]) (st' := [aI (gI Y.1 52 0 7)]) (cs' := [vp_in (nI 7) 718]) (fun _ => rfl) (al1 (vin rfl)) ?_
    obtain rfl := Option.some.inj h
    exact w_ireturn k206 ⟨rfl, rfl⟩
set_option maxRecDepth 20000 in
set_option maxHeartbeats 4000000 in
/-- BallotBusModel.of -/
theorem sn_178 (a1 : Int32) (a2 : Int32) {Y : Sm} (v : Int32) (Z : Sm) (h : fn_178 a1 a2 Y = some (v, Z)) : Mt 4 0 178 [aR 48 0, aI a1, aI a2] Y (Rt (some (aI v)) Z) nX := by
  refine Mt_of [(0, aR 48 0), (1, aI a1), (2, aI a2)] ?_
  generalize ho : (v, Z) = o at h
  have hv9 : v = o.1 := congrArg Prod.fst ho
  have hZ9 : Z = o.2 := congrArg Prod.snd ho
  clear ho
  subst hv9 hZ9
  unfold fn_178 at h
  obtain ⟨hc1, h⟩ := ck_some h
  refine w_sg k178 10 (pc' := 14) (ls' := [(0, aR 48 0), (1, aI a1), (2, aI a2)]) (st' := [aI (gI Y.1 52 0 (ix (((nI 118) + ((nI 6) * a1)) + a2)))]) (cs' := [vp_in (((nI 118) + ((nI 6) * a1)) + a2) 718]) (fun _ => rfl) (al1 (vin hc1)) ?_
  obtain rfl := Option.some.inj h
  exact w_ireturn k178 ⟨rfl, rfl⟩
set_option maxRecDepth 20000 in
set_option maxHeartbeats 4000000 in
/-- BallotBusModel.indexOf -/
theorem sn_179 (a1 : Int32) {Y : Sm} (v : Int32) (Z : Sm) (h : fn_179 a1 Y = some (v, Z)) : Mt 5 0 179 [aR 48 0, aI a1] Y (Rt (some (aI v)) Z) nX := by
  refine Mt_of [(0, aR 48 0), (1, aI a1)] ?_
  generalize ho : (v, Z) = o at h
  have hv9 : v = o.1 := congrArg Prod.fst ho
  have hZ9 : Z = o.2 := congrArg Prod.snd ho
  clear ho
  subst hv9 hZ9
  unfold fn_179 at h
  have L2_0 : ∀ (l1 : Int32) (n : Nat) (l2 : Int32) (Y : Sm), lp (fun s => fn_179_L2 l1 s.1 s.2) n (l2, Y) = some o → Wm 5 0 179 0 2 [(0, aR 48 0), (1, aI l1), (2, aI l2)] [] Y (Rt (some (aI o.1)) o.2) nX := by
    intro l1 n
    induction n with
    | zero => intro l2 Y h; cases h
    | succ n ih3 =>
      intro l2 Y h
      obtain ⟨q1, h, hn2⟩ := lp_succ h
      replace h : fn_179_L2 l1 l2 Y = some q1 := h
      unfold fn_179_L2 at h
      refine w_sg k179 5 (pc' := 10) (ls' := [(0, aR 48 0), (1, aI l1), (2, aI l2)]) (st' := [aI (gI Y.1 52 0 9), aI l2]) (cs' := [vp_in (nI 9) 718]) (fun _ => rfl) (al1 (vin rfl)) ?_
      refine w_icmp_ge k179 rfl (fun c => ?_) (fun c => ?_)
      · replace h := if_t c h
        refine w_sg k179 1 (pc' := 32) (ls' := [(0, aR 48 0), (1, aI l1), (2, aI l2)]) (st' := [aI (-1 : Int32)]) (cs' := []) (fun _ => rfl) al0 ?_
        obtain rfl := Option.some.inj h
        obtain rfl := lpn_r hn2
        exact w_ireturn k179 ⟨rfl, rfl⟩
      · replace h := if_f c h
        refine w_sg k179 3 (pc' := 16) (ls' := [(0, aR 48 0), (1, aI l1), (2, aI l2)]) (st' := [aI (nI 0), aI l2, aR 48 0]) (cs' := []) (fun _ => rfl) al0 ?_
        obtain ⟨v6, Y4, hv5, h⟩ := bd_some h
        refine w_cV1 k179 (sn_178 _ _ _ _ hv5) rfl (st := []) rfl ?_ (fun _ _ q => q.elim)
        refine w_sg k179 1 (pc' := 20) (ls' := [(0, aR 48 0), (1, aI l1), (2, aI l2)]) (st' := [aI l1, aI v6]) (cs' := []) (fun _ => rfl) al0 ?_
        refine w_icmp_ne k179 rfl (fun c => ?_) (fun c => ?_)
        · replace h := if_f c h
          refine w_sg k179 2 (pc' := 2) (ls' := [(0, aR 48 0), (1, aI l1), (2, aI (l2 + (nI 1)))]) (st' := []) (cs' := []) (fun _ => rfl) al0 ?_
          refine w_ls [(0, aR 48 0), (1, aI l1), (2, aI (l2 + (nI 1)))] (lq_c rfl (lq_c rfl (lq_c rfl lq_n))) ?_
          obtain rfl := Option.some.inj h
          exact ih3 _ _ (lpn_l hn2)
        · replace h := if_t c h
          refine w_sg k179 1 (pc' := 24) (ls' := [(0, aR 48 0), (1, aI l1), (2, aI l2)]) (st' := [aI l2]) (cs' := []) (fun _ => rfl) al0 ?_
          obtain rfl := Option.some.inj h
          obtain rfl := lpn_r hn2
          exact w_ireturn k179 ⟨rfl, rfl⟩
  refine w_sg k179 2 (pc' := 2) (ls' := [(0, aR 48 0), (1, aI a1), (2, aI (nI 0))]) (st' := []) (cs' := []) (fun _ => rfl) al0 ?_
  refine w_ls [(0, aR 48 0), (1, aI a1), (2, aI (nI 0))] (lq_c rfl (lq_c rfl (lq_c rfl lq_n))) ?_
  exact L2_0 _ _ _ _ h
set_option maxRecDepth 20000 in
set_option maxHeartbeats 4000000 in
/-- BallotBusModel.lesser -/
theorem sn_168 (a0 : Int32) (a1 : Int32) {Y : Sm} (v : Int32) (Z : Sm) (h : fn_168 a0 a1 Y = some (v, Z)) : Mt 4 0 168 [aI a0, aI a1] Y (Rt (some (aI v)) Z) nX := by
  refine Mt_of [(0, aI a0), (1, aI a1)] ?_
  generalize ho : (v, Z) = o at h
  have hv9 : v = o.1 := congrArg Prod.fst ho
  have hZ9 : Z = o.2 := congrArg Prod.snd ho
  clear ho
  subst hv9 hZ9
  unfold fn_168 at h
  refine w_sg k168 2 (pc' := 2) (ls' := [(0, aI a0), (1, aI a1)]) (st' := [aI a1, aI a0]) (cs' := []) (fun _ => rfl) al0 ?_
  refine w_icmp_ge k168 rfl (fun c => ?_) (fun c => ?_)
  · replace h := if_t c h
    refine w_sg k168 1 (pc' := 10) (ls' := [(0, aI a0), (1, aI a1)]) (st' := [aI a1]) (cs' := []) (fun _ => rfl) al0 ?_
    obtain rfl := Option.some.inj h
    exact w_ireturn k168 ⟨rfl, rfl⟩
  · replace h := if_f c h
    refine w_sg k168 2 (pc' := 10) (ls' := [(0, aI a0), (1, aI a1)]) (st' := [aI a0]) (cs' := []) (fun _ => rfl) al0 ?_
    obtain rfl := Option.some.inj h
    exact w_ireturn k168 ⟨rfl, rfl⟩
set_option maxRecDepth 20000 in
set_option maxHeartbeats 4000000 in
/-- BallotBusModel.takesOut -/
theorem sn_182 (a1 : Int32) {Y : Sm} (v : Unit) (Z : Sm) (h : fn_182 a1 Y = some (v, Z)) : Mt 4 0 182 [aR 48 0, aI a1] Y (Rt none Z) nX := by
  refine Mt_of [(0, aR 48 0), (1, aI a1)] ?_
  generalize ho : (v, Z) = o at h
  have hv9 : v = o.1 := congrArg Prod.fst ho
  have hZ9 : Z = o.2 := congrArg Prod.snd ho
  clear ho
  subst hv9 hZ9
  unfold fn_182 at h
  have L24_0 : ∀ (n : Nat) (l2 : Int32) (Y : Sm), lp (fun s => fn_182_L24 s.1 s.2) n (l2, Y) = some o → Wm 4 0 182 0 24 [(0, aR 48 0), (2, aI l2)] [] Y (Rt none o.2) nX := by
    intro n
    induction n with
    | zero => intro l2 Y h; cases h
    | succ n ih4 =>
      intro l2 Y h
      obtain ⟨q2, h, hn3⟩ := lp_succ h
      replace h : fn_182_L24 l2 Y = some q2 := h
      unfold fn_182_L24 at h
      refine w_sg k182 9 (pc' := 38) (ls' := [(0, aR 48 0), (2, aI l2)]) (st' := [aI ((nI 118) + ((nI 6) * (gI Y.1 52 0 9))), aI l2]) (cs' := [vp_in (nI 9) 718]) (fun _ => rfl) (al1 (vin rfl)) ?_
      refine w_icmp_ge k182 rfl (fun c => ?_) (fun c => ?_)
      · replace h := if_t c h
        obtain rfl := Option.some.inj h
        obtain rfl := lpn_r hn3
        exact w_return k182 ⟨rfl, rfl⟩
      · replace h := if_f c h
        obtain ⟨hc5, h⟩ := ck_some h
        obtain ⟨hc6, h⟩ := ck_some h
        refine w_sw k182 10 (Z := (sI Y 52 0 (ix l2) (gI Y.1 52 0 (ix (l2 + (nI 6)))))) (pc' := 56) (ls' := [(0, aR 48 0), (2, aI l2)]) (st' := []) (cs' := [vp_in (l2 + (nI 6)) 718, vp_in l2 718, allw 52 0]) (fun _ => rfl) rfl (al2 (vin hc5) (al2 (vin hc6) (al1 rfl))) ?_
        replace h := wr_some h
        generalize (sI Y 52 0 (ix l2) (gI Y.1 52 0 (ix (l2 + (nI 6))))) = Y7 at h ⊢
        refine w_sg k182 2 (pc' := 24) (ls' := [(0, aR 48 0), (2, aI (l2 + (nI 1)))]) (st' := []) (cs' := []) (fun _ => rfl) al0 ?_
        refine w_ls [(0, aR 48 0), (2, aI (l2 + (nI 1)))] (lq_c rfl (lq_c rfl lq_n)) ?_
        obtain rfl := Option.some.inj h
        exact ih4 _ _ (lpn_l hn3)
  refine w_sw k182 10 (Z := (sI Y 52 0 9 ((gI Y.1 52 0 9) - (nI 1)))) (pc' := 16) (ls' := [(0, aR 48 0), (1, aI a1)]) (st' := []) (cs' := [vp_in (nI 9) 718, vp_in (nI 9) 718, allw 52 0]) (fun _ => rfl) rfl (al2 (vin rfl) (al2 (vin rfl) (al1 rfl))) ?_
  replace h := wr_some h
  generalize (sI Y 52 0 9 ((gI Y.1 52 0 9) - (nI 1))) = Y1 at h ⊢
  refine w_sg k182 6 (pc' := 24) (ls' := [(0, aR 48 0), (1, aI a1), (2, aI ((nI 118) + ((nI 6) * a1)))]) (st' := []) (cs' := []) (fun _ => rfl) al0 ?_
  refine w_ls [(0, aR 48 0), (2, aI ((nI 118) + ((nI 6) * a1)))] (lq_c rfl (lq_c rfl lq_n)) ?_
  exact L24_0 _ _ _ h
set_option maxRecDepth 20000 in
set_option maxHeartbeats 4000000 in
/-- BallotBusModel.answers -/
theorem sn_204 (a1 : Int32) {Y : Sm} (v : Unit) (Z : Sm) (h : fn_204 a1 Y = some (v, Z)) : Mt 5 0 204 [aR 48 0, aI a1] Y (Rt none Z) nX := by
  refine Mt_of [(0, aR 48 0), (1, aI a1)] ?_
  generalize ho : (v, Z) = o at h
  have hv9 : v = o.1 := congrArg Prod.fst ho
  have hZ9 : Z = o.2 := congrArg Prod.snd ho
  clear ho
  subst hv9 hZ9
  unfold fn_204 at h
  refine w_sg k204 3 (pc' := 3) (ls' := [(0, aR 48 0), (1, aI a1)]) (st' := [aI (nI 1), aI a1, aR 48 0]) (cs' := []) (fun _ => rfl) al0 ?_
  obtain ⟨v3, Y1, hv2, h⟩ := bd_some h
  refine w_cV1 k204 (sn_178 _ _ _ _ hv2) rfl (st := []) rfl ?_ (fun _ _ q => q.elim)
  refine w_sg k204 4 (pc' := 10) (ls' := [(0, aR 48 0), (1, aI a1), (2, aI v3)]) (st' := [aI (nI 2), aI a1, aR 48 0]) (cs' := []) (fun _ => rfl) al0 ?_
  obtain ⟨v6, Y4, hv5, h⟩ := bd_some h
  refine w_cV1 k204 (sn_178 _ _ _ _ hv5) rfl (st := []) rfl ?_ (fun _ _ q => q.elim)
  refine w_sg k204 4 (pc' := 17) (ls' := [(0, aR 48 0), (1, aI a1), (2, aI v3), (3, aI v6)]) (st' := [aI (nI 3), aI a1, aR 48 0]) (cs' := []) (fun _ => rfl) al0 ?_
  obtain ⟨v9, Y7, hv8, h⟩ := bd_some h
  refine w_cV1 k204 (sn_178 _ _ _ _ hv8) rfl (st := []) rfl ?_ (fun _ _ q => q.elim)
  obtain ⟨hc10, h⟩ := ck_some h
  refine w_sg k204 8 (pc' := 33) (ls' := [(0, aR 48 0), (1, aI a1), (2, aI v3), (3, aI v6), (4, aI v9)]) (st' := [aI (gI Y7.1 52 0 (ix ((nI 28) + v3))), aI v9]) (cs' := [vp_in ((nI 28) + v3) 718]) (fun _ => rfl) (al1 (vin hc10)) ?_
  obtain ⟨v13, Y11, hv12, h⟩ := bd_some h
  refine w_cS1 k204 (sn_168 _ _ _ _ hv12) rfl (st := []) rfl ?_ (fun _ _ q => q.elim)
  refine w_sw k204 15 (Z := (sI Y11 52 0 (ix ((nI 28) + v3)) ((gI Y11.1 52 0 (ix ((nI 28) + v3))) - v13))) (pc' := 59) (ls' := [(0, aR 48 0), (1, aI a1), (2, aI v3), (3, aI v6), (4, aI v9), (5, aI v13)]) (st' := []) (cs' := [vp_in ((nI 28) + v3) 718, vp_in ((nI 28) + v3) 718, allw 52 0]) (fun _ => rfl) rfl (al2 (vin hc10) (al2 (vin hc10) (al1 rfl))) ?_
  replace h := wr_some h
  generalize (sI Y11 52 0 (ix ((nI 28) + v3)) ((gI Y11.1 52 0 (ix ((nI 28) + v3))) - v13)) = Y14 at h ⊢
  obtain ⟨hc15, h⟩ := ck_some h
  refine w_sg k204 16 (pc' := 85) (ls' := [(0, aR 48 0), (1, aI a1), (2, aI v3), (3, aI v6), (4, aI v9), (5, aI v13)]) (st' := [aI (((gI Y14.1 52 0 (ix ((nI 20) + v3))) + v9) - v13), aI (nI 999), aI ((nI 20) + v3), aR 52 0]) (cs' := [vp_in ((nI 20) + v3) 718]) (fun _ => rfl) (al1 (vin hc15)) ?_
  obtain ⟨v18, Y16, hv17, h⟩ := bd_some h
  refine w_cS1 k204 (sn_168 _ _ _ _ hv17) rfl (st := [aI ((nI 20) + v3), aR 52 0]) rfl ?_ (fun _ _ q => q.elim)
  refine w_sw k204 1 (Z := (sI Y16 52 0 (ix ((nI 20) + v3)) v18)) (pc' := 89) (ls' := [(0, aR 48 0), (1, aI a1), (2, aI v3), (3, aI v6), (4, aI v9), (5, aI v13)]) (st' := []) (cs' := [vp_in ((nI 20) + v3) 718, allw 52 0]) (fun _ => rfl) rfl (al2 (vin hc15) (al1 rfl)) ?_
  replace h := wr_some h
  generalize (sI Y16 52 0 (ix ((nI 20) + v3)) v18) = Y19 at h ⊢
  obtain ⟨hc20, h⟩ := ck_some h
  refine w_sw k204 14 (Z := (sI Y19 52 0 (ix ((nI 52) + v3)) ((gI Y19.1 52 0 (ix ((nI 52) + v3))) + (nI 1)))) (pc' := 109) (ls' := [(0, aR 48 0), (1, aI a1), (2, aI v3), (3, aI v6), (4, aI v9), (5, aI v13)]) (st' := []) (cs' := [vp_in ((nI 52) + v3) 718, vp_in ((nI 52) + v3) 718, allw 52 0]) (fun _ => rfl) rfl (al2 (vin hc20) (al2 (vin hc20) (al1 rfl))) ?_
  replace h := wr_some h
  generalize (sI Y19 52 0 (ix ((nI 52) + v3)) ((gI Y19.1 52 0 (ix ((nI 52) + v3))) + (nI 1))) = Y21 at h ⊢
  obtain ⟨hc22, h⟩ := ck_some h
  refine w_sw k204 14 (Z := (sI Y21 52 0 (ix ((nI 60) + v3)) ((gI Y21.1 52 0 (ix ((nI 60) + v3))) + v9))) (pc' := 130) (ls' := [(0, aR 48 0), (1, aI a1), (2, aI v3), (3, aI v6), (4, aI v9), (5, aI v13)]) (st' := []) (cs' := [vp_in ((nI 60) + v3) 718, vp_in ((nI 60) + v3) 718, allw 52 0]) (fun _ => rfl) rfl (al2 (vin hc22) (al2 (vin hc22) (al1 rfl))) ?_
  replace h := wr_some h
  generalize (sI Y21 52 0 (ix ((nI 60) + v3)) ((gI Y21.1 52 0 (ix ((nI 60) + v3))) + v9)) = Y23 at h ⊢
  obtain ⟨hc24, h⟩ := ck_some h
  refine w_sw k204 14 (Z := (sI Y23 52 0 (ix ((nI 68) + v6)) ((gI Y23.1 52 0 (ix ((nI 68) + v6))) + (nI 1)))) (pc' := 150) (ls' := [(0, aR 48 0), (1, aI a1), (2, aI v3), (3, aI v6), (4, aI v9), (5, aI v13)]) (st' := []) (cs' := [vp_in ((nI 68) + v6) 718, vp_in ((nI 68) + v6) 718, allw 52 0]) (fun _ => rfl) rfl (al2 (vin hc24) (al2 (vin hc24) (al1 rfl))) ?_
  replace h := wr_some h
  generalize (sI Y23 52 0 (ix ((nI 68) + v6)) ((gI Y23.1 52 0 (ix ((nI 68) + v6))) + (nI 1))) = Y25 at h ⊢
  obtain ⟨hc26, h⟩ := ck_some h
  refine w_sg k204 19 (pc' := 177) (ls' := [(0, aR 48 0), (1, aI a1), (2, aI v3), (3, aI v6), (4, aI v9), (5, aI v13)]) (st' := [aI (nI 5), aI a1, aR 48 0, aI ((gI Y25.1 52 0 (ix ((nI 73) + v6))) + (gI Y25.1 52 0 0)), aI ((nI 73) + v6), aR 52 0]) (cs' := [vp_in ((nI 73) + v6) 718, vp_in (nI 0) 718]) (fun _ => rfl) (al2 (vin hc26) (al1 (vin rfl))) ?_
  obtain ⟨v29, Y27, hv28, h⟩ := bd_some h
  refine w_cV1 k204 (sn_178 _ _ _ _ hv28) rfl (st := [aI ((gI Y25.1 52 0 (ix ((nI 73) + v6))) + (gI Y25.1 52 0 0)), aI ((nI 73) + v6), aR 52 0]) rfl ?_ (fun _ _ q => q.elim)
  refine w_sw k204 2 (Z := (sI Y27 52 0 (ix ((nI 73) + v6)) (((gI Y25.1 52 0 (ix ((nI 73) + v6))) + (gI Y25.1 52 0 0)) - v29))) (pc' := 182) (ls' := [(0, aR 48 0), (1, aI a1), (2, aI v3), (3, aI v6), (4, aI v9), (5, aI v13)]) (st' := []) (cs' := [vp_in ((nI 73) + v6) 718, allw 52 0]) (fun _ => rfl) rfl (al2 (vin hc26) (al1 rfl)) ?_
  replace h := wr_some h
  generalize (sI Y27 52 0 (ix ((nI 73) + v6)) (((gI Y25.1 52 0 (ix ((nI 73) + v6))) + (gI Y25.1 52 0 0)) - v29)) = Y30 at h ⊢
  refine w_sg k204 17 (pc' := 210) (ls' := [(0, aR 48 0), (1, aI a1), (2, aI v3), (3, aI v6), (4, aI v9), (5, aI v13), (6, aI ((nI 358) + ((nI 6) * ((gI Y30.1 52 0 7) - (gI Y30.1 52 0 7) / (nI 60) * (nI 60)))))]) (st' := [aI (nI 0), aI a1, aR 48 0, aI ((nI 358) + ((nI 6) * ((gI Y30.1 52 0 7) - (gI Y30.1 52 0 7) / (nI 60) * (nI 60)))), aR 52 0]) (cs' := [vp_in (nI 7) 718, ¬ (nI 60) = 0]) (fun _ => rfl) (al2 (vin rfl) (al1 (by decide))) ?_
  obtain ⟨v33, Y31, hv32, h⟩ := bd_some h
  refine w_cV1 k204 (sn_178 _ _ _ _ hv32) rfl (st := [aI ((nI 358) + ((nI 6) * ((gI Y30.1 52 0 7) - (gI Y30.1 52 0 7) / (nI 60) * (nI 60)))), aR 52 0]) rfl ?_ (fun _ _ q => q.elim)
  obtain ⟨hc34, h⟩ := ck_some h
  refine w_sw k204 1 (Z := (sI Y31 52 0 (ix ((nI 358) + ((nI 6) * ((gI Y30.1 52 0 7) - (gI Y30.1 52 0 7) / (nI 60) * (nI 60))))) v33)) (pc' := 214) (ls' := [(0, aR 48 0), (1, aI a1), (2, aI v3), (3, aI v6), (4, aI v9), (5, aI v13), (6, aI ((nI 358) + ((nI 6) * ((gI Y30.1 52 0 7) - (gI Y30.1 52 0 7) / (nI 60) * (nI 60)))))]) (st' := []) (cs' := [vp_in ((nI 358) + ((nI 6) * ((gI Y30.1 52 0 7) - (gI Y30.1 52 0 7) / (nI 60) * (nI 60)))) 718, allw 52 0]) (fun _ => rfl) rfl (al2 (vin hc34) (al1 rfl)) ?_
  replace h := wr_some h
  generalize (sI Y31 52 0 (ix ((nI 358) + ((nI 6) * ((gI Y30.1 52 0 7) - (gI Y30.1 52 0 7) / (nI 60) * (nI 60))))) v33) = Y35 at h ⊢
  obtain ⟨hc36, h⟩ := ck_some h
  refine w_sw k204 7 (Z := (sI Y35 52 0 (ix (((nI 358) + ((nI 6) * ((gI Y30.1 52 0 7) - (gI Y30.1 52 0 7) / (nI 60) * (nI 60)))) + (nI 1))) v3)) (pc' := 224) (ls' := [(0, aR 48 0), (1, aI a1), (2, aI v3), (3, aI v6), (4, aI v9), (5, aI v13), (6, aI ((nI 358) + ((nI 6) * ((gI Y30.1 52 0 7) - (gI Y30.1 52 0 7) / (nI 60) * (nI 60)))))]) (st' := []) (cs' := [vp_in (((nI 358) + ((nI 6) * ((gI Y30.1 52 0 7) - (gI Y30.1 52 0 7) / (nI 60) * (nI 60)))) + (nI 1)) 718, allw 52 0]) (fun _ => rfl) rfl (al2 (vin hc36) (al1 rfl)) ?_
  replace h := wr_some h
  generalize (sI Y35 52 0 (ix (((nI 358) + ((nI 6) * ((gI Y30.1 52 0 7) - (gI Y30.1 52 0 7) / (nI 60) * (nI 60)))) + (nI 1))) v3) = Y37 at h ⊢
  obtain ⟨hc38, h⟩ := ck_some h
  refine w_sw k204 7 (Z := (sI Y37 52 0 (ix (((nI 358) + ((nI 6) * ((gI Y30.1 52 0 7) - (gI Y30.1 52 0 7) / (nI 60) * (nI 60)))) + (nI 2))) v6)) (pc' := 234) (ls' := [(0, aR 48 0), (1, aI a1), (2, aI v3), (3, aI v6), (4, aI v9), (5, aI v13), (6, aI ((nI 358) + ((nI 6) * ((gI Y30.1 52 0 7) - (gI Y30.1 52 0 7) / (nI 60) * (nI 60)))))]) (st' := []) (cs' := [vp_in (((nI 358) + ((nI 6) * ((gI Y30.1 52 0 7) - (gI Y30.1 52 0 7) / (nI 60) * (nI 60)))) + (nI 2)) 718, allw 52 0]) (fun _ => rfl) rfl (al2 (vin hc38) (al1 rfl)) ?_
  replace h := wr_some h
  generalize (sI Y37 52 0 (ix (((nI 358) + ((nI 6) * ((gI Y30.1 52 0 7) - (gI Y30.1 52 0 7) / (nI 60) * (nI 60)))) + (nI 2))) v6) = Y39 at h ⊢
  refine w_sg k204 8 (pc' := 245) (ls' := [(0, aR 48 0), (1, aI a1), (2, aI v3), (3, aI v6), (4, aI v9), (5, aI v13), (6, aI ((nI 358) + ((nI 6) * ((gI Y30.1 52 0 7) - (gI Y30.1 52 0 7) / (nI 60) * (nI 60)))))]) (st' := [aI (nI 5), aI a1, aR 48 0, aI (((nI 358) + ((nI 6) * ((gI Y30.1 52 0 7) - (gI Y30.1 52 0 7) / (nI 60) * (nI 60)))) + (nI 3)), aR 52 0]) (cs' := []) (fun _ => rfl) al0 ?_
  obtain ⟨v42, Y40, hv41, h⟩ := bd_some h
  refine w_cV1 k204 (sn_178 _ _ _ _ hv41) rfl (st := [aI (((nI 358) + ((nI 6) * ((gI Y30.1 52 0 7) - (gI Y30.1 52 0 7) / (nI 60) * (nI 60)))) + (nI 3)), aR 52 0]) rfl ?_ (fun _ _ q => q.elim)
  obtain ⟨hc43, h⟩ := ck_some h
  refine w_sw k204 1 (Z := (sI Y40 52 0 (ix (((nI 358) + ((nI 6) * ((gI Y30.1 52 0 7) - (gI Y30.1 52 0 7) / (nI 60) * (nI 60)))) + (nI 3))) v42)) (pc' := 249) (ls' := [(0, aR 48 0), (1, aI a1), (2, aI v3), (3, aI v6), (4, aI v9), (5, aI v13), (6, aI ((nI 358) + ((nI 6) * ((gI Y30.1 52 0 7) - (gI Y30.1 52 0 7) / (nI 60) * (nI 60)))))]) (st' := []) (cs' := [vp_in (((nI 358) + ((nI 6) * ((gI Y30.1 52 0 7) - (gI Y30.1 52 0 7) / (nI 60) * (nI 60)))) + (nI 3)) 718, allw 52 0]) (fun _ => rfl) rfl (al2 (vin hc43) (al1 rfl)) ?_
  replace h := wr_some h
  generalize (sI Y40 52 0 (ix (((nI 358) + ((nI 6) * ((gI Y30.1 52 0 7) - (gI Y30.1 52 0 7) / (nI 60) * (nI 60)))) + (nI 3))) v42) = Y44 at h ⊢
  obtain ⟨hc45, h⟩ := ck_some h
  refine w_sw k204 10 (Z := (sI Y44 52 0 (ix (((nI 358) + ((nI 6) * ((gI Y30.1 52 0 7) - (gI Y30.1 52 0 7) / (nI 60) * (nI 60)))) + (nI 4))) (gI Y44.1 52 0 0))) (pc' := 264) (ls' := [(0, aR 48 0), (1, aI a1), (2, aI v3), (3, aI v6), (4, aI v9), (5, aI v13), (6, aI ((nI 358) + ((nI 6) * ((gI Y30.1 52 0 7) - (gI Y30.1 52 0 7) / (nI 60) * (nI 60)))))]) (st' := []) (cs' := [vp_in (nI 0) 718, vp_in (((nI 358) + ((nI 6) * ((gI Y30.1 52 0 7) - (gI Y30.1 52 0 7) / (nI 60) * (nI 60)))) + (nI 4)) 718, allw 52 0]) (fun _ => rfl) rfl (al2 (vin rfl) (al2 (vin hc45) (al1 rfl))) ?_
  replace h := wr_some h
  generalize (sI Y44 52 0 (ix (((nI 358) + ((nI 6) * ((gI Y30.1 52 0 7) - (gI Y30.1 52 0 7) / (nI 60) * (nI 60)))) + (nI 4))) (gI Y44.1 52 0 0)) = Y46 at h ⊢
  obtain ⟨hc47, h⟩ := ck_some h
  refine w_sw k204 7 (Z := (sI Y46 52 0 (ix (((nI 358) + ((nI 6) * ((gI Y30.1 52 0 7) - (gI Y30.1 52 0 7) / (nI 60) * (nI 60)))) + (nI 5))) v13)) (pc' := 275) (ls' := [(0, aR 48 0), (1, aI a1), (2, aI v3), (3, aI v6), (4, aI v9), (5, aI v13), (6, aI ((nI 358) + ((nI 6) * ((gI Y30.1 52 0 7) - (gI Y30.1 52 0 7) / (nI 60) * (nI 60)))))]) (st' := []) (cs' := [vp_in (((nI 358) + ((nI 6) * ((gI Y30.1 52 0 7) - (gI Y30.1 52 0 7) / (nI 60) * (nI 60)))) + (nI 5)) 718, allw 52 0]) (fun _ => rfl) rfl (al2 (vin hc47) (al1 rfl)) ?_
  replace h := wr_some h
  generalize (sI Y46 52 0 (ix (((nI 358) + ((nI 6) * ((gI Y30.1 52 0 7) - (gI Y30.1 52 0 7) / (nI 60) * (nI 60)))) + (nI 5))) v13) = Y48 at h ⊢
  refine w_sw k204 10 (Z := (sI Y48 52 0 7 ((gI Y48.1 52 0 7) + (nI 1)))) (pc' := 291) (ls' := [(0, aR 48 0), (1, aI a1), (2, aI v3), (3, aI v6), (4, aI v9), (5, aI v13), (6, aI ((nI 358) + ((nI 6) * ((gI Y30.1 52 0 7) - (gI Y30.1 52 0 7) / (nI 60) * (nI 60)))))]) (st' := []) (cs' := [vp_in (nI 7) 718, vp_in (nI 7) 718, allw 52 0]) (fun _ => rfl) rfl (al2 (vin rfl) (al2 (vin rfl) (al1 rfl))) ?_
  replace h := wr_some h
  generalize (sI Y48 52 0 7 ((gI Y48.1 52 0 7) + (nI 1))) = Y49 at h ⊢
  refine w_sw k204 5 (Z := (sI Y49 52 0 8 (-1 : Int32))) (pc' := 299) (ls' := [(0, aR 48 0), (1, aI a1), (2, aI v3), (3, aI v6), (4, aI v9), (5, aI v13), (6, aI ((nI 358) + ((nI 6) * ((gI Y30.1 52 0 7) - (gI Y30.1 52 0 7) / (nI 60) * (nI 60)))))]) (st' := []) (cs' := [vp_in (nI 8) 718, allw 52 0]) (fun _ => rfl) rfl (al2 (vin rfl) (al1 rfl)) ?_
  replace h := wr_some h
  generalize (sI Y49 52 0 8 (-1 : Int32)) = Y50 at h ⊢
  refine w_sg k204 2 (pc' := 301) (ls' := [(0, aR 48 0), (1, aI a1), (2, aI v3), (3, aI v6), (4, aI v9), (5, aI v13), (6, aI ((nI 358) + ((nI 6) * ((gI Y30.1 52 0 7) - (gI Y30.1 52 0 7) / (nI 60) * (nI 60)))))]) (st' := [aI a1, aR 48 0]) (cs' := []) (fun _ => rfl) al0 ?_
  obtain ⟨_, Y51, hv52, h⟩ := bd_some h
  refine w_cV0 k204 (sn_182 _ _ _ hv52) rfl (st := []) rfl ?_ (fun _ _ q => q.elim)
  obtain rfl := Option.some.inj h
  exact w_return k204 ⟨rfl, rfl⟩
set_option maxRecDepth 20000 in
set_option maxHeartbeats 4000000 in
/-- BallotBusModel.worksOn -/
theorem sn_203 {Y : Sm} (v : Unit) (Z : Sm) (h : fn_203 Y = some (v, Z)) : Mt 6 0 203 [aR 48 0] Y (Rt none Z) nX := by
  refine Mt_of [(0, aR 48 0)] ?_
  generalize ho : (v, Z) = o at h
  have hv9 : v = o.1 := congrArg Prod.fst ho
  have hZ9 : Z = o.2 := congrArg Prod.snd ho
  clear ho
  subst hv9 hZ9
  unfold fn_203 at h
  refine w_sg k203 5 (pc' := 8) (ls' := [(0, aR 48 0)]) (st' := [aI (gI Y.1 52 0 8), aR 48 0]) (cs' := [vp_in (nI 8) 718]) (fun _ => rfl) (al1 (vin rfl)) ?_
  obtain ⟨v3, Y1, hv2, h⟩ := bd_some h
  refine w_cV1 k203 (sn_179 _ _ _ hv2) rfl (st := []) rfl ?_ (fun _ _ q => q.elim)
  refine w_sg k203 13 (pc' := 28) (ls' := [(0, aR 48 0), (1, aI v3)]) (st' := [aI (nI 4), aI v3, aR 48 0, aI (((nI 118) + ((nI 6) * v3)) + (nI 4)), aR 52 0]) (cs' := []) (fun _ => rfl) al0 ?_
  obtain ⟨v6, Y4, hv5, h⟩ := bd_some h
  refine w_cV1 k203 (sn_178 _ _ _ _ hv5) rfl (st := [aI (((nI 118) + ((nI 6) * v3)) + (nI 4)), aR 52 0]) rfl ?_ (fun _ _ q => q.elim)
  obtain ⟨hc7, h⟩ := ck_some h
  refine w_sw k203 3 (Z := (sI Y4 52 0 (ix (((nI 118) + ((nI 6) * v3)) + (nI 4))) (v6 - (nI 1)))) (pc' := 34) (ls' := [(0, aR 48 0), (1, aI v3)]) (st' := []) (cs' := [vp_in (((nI 118) + ((nI 6) * v3)) + (nI 4)) 718, allw 52 0]) (fun _ => rfl) rfl (al2 (vin hc7) (al1 rfl)) ?_
  replace h := wr_some h
  generalize (sI Y4 52 0 (ix (((nI 118) + ((nI 6) * v3)) + (nI 4))) (v6 - (nI 1))) = Y8 at h ⊢
  refine w_sg k203 3 (pc' := 37) (ls' := [(0, aR 48 0), (1, aI v3)]) (st' := [aI (nI 4), aI v3, aR 48 0]) (cs' := []) (fun _ => rfl) al0 ?_
  obtain ⟨v11, Y9, hv10, h⟩ := bd_some h
  refine w_cV1 k203 (sn_178 _ _ _ _ hv10) rfl (st := []) rfl ?_ (fun _ _ q => q.elim)
  refine w_if_ne k203 rfl (fun c => ?_) (fun c => ?_)
  · replace h := if_f c h
    obtain rfl := Option.some.inj h
    exact w_return k203 ⟨rfl, rfl⟩
  · replace h := if_t c h
    refine w_sg k203 2 (pc' := 45) (ls' := [(0, aR 48 0), (1, aI v3)]) (st' := [aI v3, aR 48 0]) (cs' := []) (fun _ => rfl) al0 ?_
    obtain ⟨_, Y12, hv13, h⟩ := bd_some h
    refine w_cV0 k203 (sn_204 _ _ _ hv13) rfl (st := []) rfl ?_ (fun _ _ q => q.elim)
    obtain rfl := Option.some.inj h
    exact w_return k203 ⟨rfl, rfl⟩
set_option maxRecDepth 20000 in
set_option maxHeartbeats 4000000 in
/-- BallotBusModel.has -/
theorem sn_167 (a0 : Int32) (a1 : Int32) {Y : Sm} (v : Int32) (Z : Sm) (h : fn_167 a0 a1 Y = some (v, Z)) : Mt 4 0 167 [aI a0, aI a1] Y (Rt (some (aI v)) Z) nX := by
  refine Mt_of [(0, aI a0), (1, aI a1)] ?_
  generalize ho : (v, Z) = o at h
  have hv9 : v = o.1 := congrArg Prod.fst ho
  have hZ9 : Z = o.2 := congrArg Prod.snd ho
  clear ho
  subst hv9 hZ9
  unfold fn_167 at h
  refine w_sg k167 6 (pc' := 6) (ls' := [(0, aI a0), (1, aI a1)]) (st' := [aI (nI 1), aI ((a0 >>> (a1 &&& 31)) &&& (nI 1))]) (cs' := []) (fun _ => rfl) al0 ?_
  refine w_icmp_ne k167 rfl (fun c => ?_) (fun c => ?_)
  · replace h := if_f c h
    refine w_sg k167 1 (pc' := 14) (ls' := [(0, aI a0), (1, aI a1)]) (st' := [aI (nI 0)]) (cs' := []) (fun _ => rfl) al0 ?_
    obtain rfl := Option.some.inj h
    exact w_zreturn k167 (Or.inl rfl) ⟨rfl, rfl⟩
  · replace h := if_t c h
    refine w_sg k167 2 (pc' := 14) (ls' := [(0, aI a0), (1, aI a1)]) (st' := [aI (nI 1)]) (cs' := []) (fun _ => rfl) al0 ?_
    obtain rfl := Option.some.inj h
    exact w_zreturn k167 (Or.inr rfl) ⟨rfl, rfl⟩
set_option maxRecDepth 20000 in
set_option maxHeartbeats 4000000 in
/-- BallotBusModel.doesWait -/
theorem sn_180 (a1 : Int32) {Y : Sm} (v : Int32) (Z : Sm) (h : fn_180 a1 Y = some (v, Z)) : Mt 5 0 180 [aR 48 0, aI a1] Y (Rt (some (aI v)) Z) nX := by
  refine Mt_of [(0, aR 48 0), (1, aI a1)] ?_
  generalize ho : (v, Z) = o at h
  have hv9 : v = o.1 := congrArg Prod.fst ho
  have hZ9 : Z = o.2 := congrArg Prod.snd ho
  clear ho
  subst hv9 hZ9
  unfold fn_180 at h
  refine w_sg k180 3 (pc' := 3) (ls' := [(0, aR 48 0), (1, aI a1)]) (st' := [aI (nI 0), aI a1, aR 48 0]) (cs' := []) (fun _ => rfl) al0 ?_
  obtain ⟨v3, Y1, hv2, h⟩ := bd_some h
  refine w_cV1 k180 (sn_178 _ _ _ _ hv2) rfl (st := []) rfl ?_ (fun _ _ q => q.elim)
  refine w_sg k180 4 (pc' := 13) (ls' := [(0, aR 48 0), (1, aI a1)]) (st' := [aI (gI Y1.1 52 0 8), aI v3]) (cs' := [vp_in (nI 8) 718]) (fun _ => rfl) (al1 (vin rfl)) ?_
  refine w_icmp_eq k180 rfl (fun c => ?_) (fun c => ?_)
  · replace h := if_t c h
    refine w_sg k180 1 (pc' := 21) (ls' := [(0, aR 48 0), (1, aI a1)]) (st' := [aI (nI 0)]) (cs' := []) (fun _ => rfl) al0 ?_
    obtain rfl := Option.some.inj h
    exact w_zreturn k180 (Or.inl rfl) ⟨rfl, rfl⟩
  · replace h := if_f c h
    refine w_sg k180 2 (pc' := 21) (ls' := [(0, aR 48 0), (1, aI a1)]) (st' := [aI (nI 1)]) (cs' := []) (fun _ => rfl) al0 ?_
    obtain rfl := Option.some.inj h
    exact w_zreturn k180 (Or.inr rfl) ⟨rfl, rfl⟩
set_option maxRecDepth 20000 in
set_option maxHeartbeats 4000000 in
/-- BallotBusModel.isInLine -/
theorem sn_186 (a1 : Int32) (a2 : Int32) {Y : Sm} (v : Int32) (Z : Sm) (h : fn_186 a1 a2 Y = some (v, Z)) : Mt 6 0 186 [aR 48 0, aI a1, aI a2] Y (Rt (some (aI v)) Z) nX := by
  refine Mt_of [(0, aR 48 0), (1, aI a1), (2, aI a2)] ?_
  generalize ho : (v, Z) = o at h
  have hv9 : v = o.1 := congrArg Prod.fst ho
  have hZ9 : Z = o.2 := congrArg Prod.snd ho
  clear ho
  subst hv9 hZ9
  unfold fn_186 at h
  refine w_sg k186 3 (pc' := 3) (ls' := [(0, aR 48 0), (1, aI a1), (2, aI a2)]) (st' := [aI (nI 2), aI a1, aR 48 0]) (cs' := []) (fun _ => rfl) al0 ?_
  obtain ⟨v3, Y1, hv2, h⟩ := bd_some h
  refine w_cV1 k186 (sn_178 _ _ _ _ hv2) rfl (st := []) rfl ?_ (fun _ _ q => q.elim)
  refine w_sg k186 1 (pc' := 7) (ls' := [(0, aR 48 0), (1, aI a1), (2, aI a2)]) (st' := [aI a2, aI v3]) (cs' := []) (fun _ => rfl) al0 ?_
  refine w_icmp_ne k186 rfl (fun c => ?_) (fun c => ?_)
  · replace h := if_f c h
    refine w_sg k186 1 (pc' := 23) (ls' := [(0, aR 48 0), (1, aI a1), (2, aI a2)]) (st' := [aI (nI 0)]) (cs' := []) (fun _ => rfl) al0 ?_
    obtain rfl := Option.some.inj h
    exact w_zreturn k186 (Or.inl rfl) ⟨rfl, rfl⟩
  · replace h := if_t c h
    refine w_sg k186 2 (pc' := 12) (ls' := [(0, aR 48 0), (1, aI a1), (2, aI a2)]) (st' := [aI a1, aR 48 0]) (cs' := []) (fun _ => rfl) al0 ?_
    obtain ⟨v6, Y4, hv5, h⟩ := bd_some h
    refine w_cV1 k186 (sn_180 _ _ _ hv5) rfl (st := []) rfl ?_ (fun _ _ q => q.elim)
    refine w_if_eq k186 rfl (fun c => ?_) (fun c => ?_)
    · replace h := if_t c h
      refine w_sg k186 1 (pc' := 23) (ls' := [(0, aR 48 0), (1, aI a1), (2, aI a2)]) (st' := [aI (nI 0)]) (cs' := []) (fun _ => rfl) al0 ?_
      obtain rfl := Option.some.inj h
      exact w_zreturn k186 (Or.inl rfl) ⟨rfl, rfl⟩
    · replace h := if_f c h
      refine w_sg k186 2 (pc' := 23) (ls' := [(0, aR 48 0), (1, aI a1), (2, aI a2)]) (st' := [aI (nI 1)]) (cs' := []) (fun _ => rfl) al0 ?_
      obtain rfl := Option.some.inj h
      exact w_zreturn k186 (Or.inr rfl) ⟨rfl, rfl⟩
set_option maxRecDepth 20000 in
set_option maxHeartbeats 4000000 in
/-- BallotBusModel.claimOf -/
theorem sn_184 (a1 : Int32) {Y : Sm} (v : Int32) (Z : Sm) (h : fn_184 a1 Y = some (v, Z)) : Mt 5 0 184 [aR 48 0, aI a1] Y (Rt (some (aI v)) Z) nX := by
  refine Mt_of [(0, aR 48 0), (1, aI a1)] ?_
  generalize ho : (v, Z) = o at h
  have hv9 : v = o.1 := congrArg Prod.fst ho
  have hZ9 : Z = o.2 := congrArg Prod.snd ho
  clear ho
  subst hv9 hZ9
  unfold fn_184 at h
  refine w_sg k184 6 (pc' := 9) (ls' := [(0, aR 48 0), (1, aI a1)]) (st' := [aI (nI 2), aI a1, aR 48 0, aI (nI 15), aR 52 0]) (cs' := []) (fun _ => rfl) al0 ?_
  obtain ⟨v3, Y1, hv2, h⟩ := bd_some h
  refine w_cV1 k184 (sn_178 _ _ _ _ hv2) rfl (st := [aI (nI 15), aR 52 0]) rfl ?_ (fun _ _ q => q.elim)
  obtain ⟨hc4, h⟩ := ck_some h
  refine w_sg k184 2 (pc' := 14) (ls' := [(0, aR 48 0), (1, aI a1)]) (st' := [aI (gI Y1.1 52 0 (ix ((nI 15) + v3)))]) (cs' := [vp_in ((nI 15) + v3) 718]) (fun _ => rfl) (al1 (vin hc4)) ?_
  by_cases c5 : (gI Y1.1 52 0 (ix ((nI 15) + v3))) = (nI 1)
  · replace h := if_t c5 h
    refine w_swAt k184 0 rfl rfl rfl rfl c5 ?_
    refine w_sg k184 3 (pc' := 43) (ls' := [(0, aR 48 0), (1, aI a1)]) (st' := [aI (nI 3), aI a1, aR 48 0]) (cs' := []) (fun _ => rfl) al0 ?_
    obtain ⟨v10, Y8, hv9, h⟩ := bd_some h
    refine w_cV1 k184 (sn_178 _ _ _ _ hv9) rfl (st := []) rfl ?_ (fun _ _ q => q.elim)
    refine w_sg k184 1 (pc' := 47) (ls' := [(0, aR 48 0), (1, aI a1)]) (st' := [aI (-v10)]) (cs' := []) (fun _ => rfl) al0 ?_
    obtain rfl := Option.some.inj h
    exact w_ireturn k184 ⟨rfl, rfl⟩
  replace h := if_f c5 h
  by_cases c6 : (gI Y1.1 52 0 (ix ((nI 15) + v3))) = (nI 2)
  · replace h := if_t c6 h
    refine w_swAt k184 1 rfl rfl rfl rfl c6 ?_
    refine w_sg k184 6 (pc' := 57) (ls' := [(0, aR 48 0), (1, aI a1)]) (st' := [aI (nI 1), aI a1, aR 48 0, aI (nI 20), aR 52 0]) (cs' := []) (fun _ => rfl) al0 ?_
    obtain ⟨v13, Y11, hv12, h⟩ := bd_some h
    refine w_cV1 k184 (sn_178 _ _ _ _ hv12) rfl (st := [aI (nI 20), aR 52 0]) rfl ?_ (fun _ _ q => q.elim)
    obtain ⟨hc14, h⟩ := ck_some h
    refine w_sg k184 2 (pc' := 62) (ls' := [(0, aR 48 0), (1, aI a1)]) (st' := [aI (gI Y11.1 52 0 (ix ((nI 20) + v13)))]) (cs' := [vp_in ((nI 20) + v13) 718]) (fun _ => rfl) (al1 (vin hc14)) ?_
    obtain rfl := Option.some.inj h
    exact w_ireturn k184 ⟨rfl, rfl⟩
  replace h := if_f c6 h
  by_cases c7 : (gI Y1.1 52 0 (ix ((nI 15) + v3))) = (nI 3)
  · replace h := if_t c7 h
    refine w_swAt k184 2 rfl rfl rfl rfl c7 ?_
    refine w_sg k184 6 (pc' := 72) (ls' := [(0, aR 48 0), (1, aI a1)]) (st' := [aI (nI 1), aI a1, aR 48 0, aI (nI 28), aR 52 0]) (cs' := []) (fun _ => rfl) al0 ?_
    obtain ⟨v17, Y15, hv16, h⟩ := bd_some h
    refine w_cV1 k184 (sn_178 _ _ _ _ hv16) rfl (st := [aI (nI 28), aR 52 0]) rfl ?_ (fun _ _ q => q.elim)
    obtain ⟨hc18, h⟩ := ck_some h
    refine w_sg k184 2 (pc' := 77) (ls' := [(0, aR 48 0), (1, aI a1)]) (st' := [aI (gI Y15.1 52 0 (ix ((nI 28) + v17)))]) (cs' := [vp_in ((nI 28) + v17) 718]) (fun _ => rfl) (al1 (vin hc18)) ?_
    obtain rfl := Option.some.inj h
    exact w_ireturn k184 ⟨rfl, rfl⟩
  replace h := if_f c7 h
  refine w_swOut k184 rfl rfl rfl (nsw_s (nsw_s (nsw_s nsw_0 c5) c6) c7) ?_
  refine w_sg k184 1 (pc' := 79) (ls' := [(0, aR 48 0), (1, aI a1)]) (st' := [aI (nI 0)]) (cs' := []) (fun _ => rfl) al0 ?_
  obtain rfl := Option.some.inj h
  exact w_ireturn k184 ⟨rfl, rfl⟩
set_option maxRecDepth 20000 in
set_option maxHeartbeats 4000000 in
/-- BallotBusModel.isAhead -/
theorem sn_185 (a1 : Int32) (a2 : Int32) {Y : Sm} (v : Int32) (Z : Sm) (h : fn_185 a1 a2 Y = some (v, Z)) : Mt 6 0 185 [aR 48 0, aI a1, aI a2] Y (Rt (some (aI v)) Z) nX := by
  refine Mt_of [(0, aR 48 0), (1, aI a1), (2, aI a2)] ?_
  generalize ho : (v, Z) = o at h
  have hv9 : v = o.1 := congrArg Prod.fst ho
  have hZ9 : Z = o.2 := congrArg Prod.snd ho
  clear ho
  subst hv9 hZ9
  unfold fn_185 at h
  refine w_sg k185 2 (pc' := 2) (ls' := [(0, aR 48 0), (1, aI a1), (2, aI a2)]) (st' := [aI a1, aR 48 0]) (cs' := []) (fun _ => rfl) al0 ?_
  obtain ⟨v3, Y1, hv2, h⟩ := bd_some h
  refine w_cV1 k185 (sn_184 _ _ _ hv2) rfl (st := []) rfl ?_ (fun _ _ q => q.elim)
  refine w_sg k185 2 (pc' := 7) (ls' := [(0, aR 48 0), (1, aI a1), (2, aI a2)]) (st' := [aI a2, aR 48 0, aI v3]) (cs' := []) (fun _ => rfl) al0 ?_
  obtain ⟨v6, Y4, hv5, h⟩ := bd_some h
  refine w_cV1 k185 (sn_184 _ _ _ hv5) rfl (st := [aI v3]) rfl ?_ (fun _ _ q => q.elim)
  refine w_icmp_eq k185 rfl (fun c => ?_) (fun c => ?_)
  · replace h := if_t c h
    refine w_sg k185 3 (pc' := 35) (ls' := [(0, aR 48 0), (1, aI a1), (2, aI a2)]) (st' := [aI (nI 0), aI a1, aR 48 0]) (cs' := []) (fun _ => rfl) al0 ?_
    obtain ⟨v9, Y7, hv8, h⟩ := bd_some h
    refine w_cV1 k185 (sn_178 _ _ _ _ hv8) rfl (st := []) rfl ?_ (fun _ _ q => q.elim)
    refine w_sg k185 3 (pc' := 41) (ls' := [(0, aR 48 0), (1, aI a1), (2, aI a2)]) (st' := [aI (nI 0), aI a2, aR 48 0, aI v9]) (cs' := []) (fun _ => rfl) al0 ?_
    obtain ⟨v12, Y10, hv11, h⟩ := bd_some h
    refine w_cV1 k185 (sn_178 _ _ _ _ hv11) rfl (st := [aI v9]) rfl ?_ (fun _ _ q => q.elim)
    refine w_icmp_ge k185 rfl (fun c => ?_) (fun c => ?_)
    · replace h := if_t c h
      refine w_sg k185 1 (pc' := 52) (ls' := [(0, aR 48 0), (1, aI a1), (2, aI a2)]) (st' := [aI (nI 0)]) (cs' := []) (fun _ => rfl) al0 ?_
      obtain rfl := Option.some.inj h
      exact w_zreturn k185 (Or.inl rfl) ⟨rfl, rfl⟩
    · replace h := if_f c h
      refine w_sg k185 2 (pc' := 52) (ls' := [(0, aR 48 0), (1, aI a1), (2, aI a2)]) (st' := [aI (nI 1)]) (cs' := []) (fun _ => rfl) al0 ?_
      obtain rfl := Option.some.inj h
      exact w_zreturn k185 (Or.inr rfl) ⟨rfl, rfl⟩
  · replace h := if_f c h
    refine w_sg k185 2 (pc' := 15) (ls' := [(0, aR 48 0), (1, aI a1), (2, aI a2)]) (st' := [aI a1, aR 48 0]) (cs' := []) (fun _ => rfl) al0 ?_
    obtain ⟨v15, Y13, hv14, h⟩ := bd_some h
    refine w_cV1 k185 (sn_184 _ _ _ hv14) rfl (st := []) rfl ?_ (fun _ _ q => q.elim)
    refine w_sg k185 2 (pc' := 20) (ls' := [(0, aR 48 0), (1, aI a1), (2, aI a2)]) (st' := [aI a2, aR 48 0, aI v15]) (cs' := []) (fun _ => rfl) al0 ?_
    obtain ⟨v18, Y16, hv17, h⟩ := bd_some h
    refine w_cV1 k185 (sn_184 _ _ _ hv17) rfl (st := [aI v15]) rfl ?_ (fun _ _ q => q.elim)
    refine w_icmp_le k185 rfl (fun c => ?_) (fun c => ?_)
    · replace h := if_t c h
      refine w_sg k185 1 (pc' := 31) (ls' := [(0, aR 48 0), (1, aI a1), (2, aI a2)]) (st' := [aI (nI 0)]) (cs' := []) (fun _ => rfl) al0 ?_
      obtain rfl := Option.some.inj h
      exact w_zreturn k185 (Or.inl rfl) ⟨rfl, rfl⟩
    · replace h := if_f c h
      refine w_sg k185 2 (pc' := 31) (ls' := [(0, aR 48 0), (1, aI a1), (2, aI a2)]) (st' := [aI (nI 1)]) (cs' := []) (fun _ => rfl) al0 ?_
      obtain rfl := Option.some.inj h
      exact w_zreturn k185 (Or.inr rfl) ⟨rfl, rfl⟩
set_option maxRecDepth 20000 in
set_option maxHeartbeats 4000000 in
/-- BallotBusModel.aheadOf -/
theorem sn_187 (a1 : Int32) {Y : Sm} (v : Int32) (Z : Sm) (h : fn_187 a1 Y = some (v, Z)) : Mt 7 0 187 [aR 48 0, aI a1] Y (Rt (some (aI v)) Z) nX := by
  refine Mt_of [(0, aR 48 0), (1, aI a1)] ?_
  generalize ho : (v, Z) = o at h
  have hv9 : v = o.1 := congrArg Prod.fst ho
  have hZ9 : Z = o.2 := congrArg Prod.snd ho
  clear ho
  subst hv9 hZ9
  unfold fn_187 at h
  have L4_0 : ∀ (l1 : Int32) (n : Nat) (l2 : Int32) (l3 : Int32) (Y : Sm), lp (fun s => fn_187_L4 l1 s.1 s.2.1 s.2.2) n (l2, l3, Y) = some o → Wm 7 0 187 0 4 [(0, aR 48 0), (1, aI l1), (2, aI l2), (3, aI l3)] [] Y (Rt (some (aI o.1)) o.2) nX := by
    intro l1 n
    induction n with
    | zero => intro l2 l3 Y h; cases h
    | succ n ih3 =>
      intro l2 l3 Y h
      obtain ⟨q1, h, hn2⟩ := lp_succ h
      replace h : fn_187_L4 l1 l2 l3 Y = some q1 := h
      unfold fn_187_L4 at h
      refine w_sg k187 5 (pc' := 12) (ls' := [(0, aR 48 0), (1, aI l1), (2, aI l2), (3, aI l3)]) (st' := [aI (gI Y.1 52 0 9), aI l3]) (cs' := [vp_in (nI 9) 718]) (fun _ => rfl) (al1 (vin rfl)) ?_
      refine w_icmp_ge k187 rfl (fun c => ?_) (fun c => ?_)
      · replace h := if_t c h
        refine w_sg k187 1 (pc' := 49) (ls' := [(0, aR 48 0), (1, aI l1), (2, aI l2), (3, aI l3)]) (st' := [aI l2]) (cs' := []) (fun _ => rfl) al0 ?_
        obtain rfl := Option.some.inj h
        obtain rfl := lpn_r hn2
        exact w_ireturn k187 ⟨rfl, rfl⟩
      · replace h := if_f c h
        refine w_sg k187 5 (pc' := 20) (ls' := [(0, aR 48 0), (1, aI l1), (2, aI l2), (3, aI l3)]) (st' := [aI (nI 2), aI l1, aR 48 0, aI l3, aR 48 0]) (cs' := []) (fun _ => rfl) al0 ?_
        obtain ⟨v6, Y4, hv5, h⟩ := bd_some h
        refine w_cV1 k187 (sn_178 _ _ _ _ hv5) rfl (st := [aI l3, aR 48 0]) rfl ?_ (fun _ _ q => q.elim)
        obtain ⟨v9, Y7, hv8, h⟩ := bd_some h
        refine w_cV1 k187 (sn_186 _ _ _ _ hv8) rfl (st := []) rfl ?_ (fun _ _ q => q.elim)
        refine w_if_eq k187 rfl (fun c => ?_) (fun c => ?_)
        · replace h := if_t c h
          refine w_sg k187 2 (pc' := 4) (ls' := [(0, aR 48 0), (1, aI l1), (2, aI l2), (3, aI (l3 + (nI 1)))]) (st' := []) (cs' := []) (fun _ => rfl) al0 ?_
          refine w_ls [(0, aR 48 0), (1, aI l1), (2, aI l2), (3, aI (l3 + (nI 1)))] (lq_c rfl (lq_c rfl (lq_c rfl (lq_c rfl lq_n)))) ?_
          obtain rfl := Option.some.inj h
          exact ih3 _ _ _ (lpn_l hn2)
        · replace h := if_f c h
          refine w_sg k187 3 (pc' := 32) (ls' := [(0, aR 48 0), (1, aI l1), (2, aI l2), (3, aI l3)]) (st' := [aI l1, aI l3, aR 48 0]) (cs' := []) (fun _ => rfl) al0 ?_
          obtain ⟨v12, Y10, hv11, h⟩ := bd_some h
          refine w_cV1 k187 (sn_185 _ _ _ _ hv11) rfl (st := []) rfl ?_ (fun _ _ q => q.elim)
          refine w_if_eq k187 rfl (fun c => ?_) (fun c => ?_)
          · replace h := if_t c h
            refine w_sg k187 2 (pc' := 4) (ls' := [(0, aR 48 0), (1, aI l1), (2, aI l2), (3, aI (l3 + (nI 1)))]) (st' := []) (cs' := []) (fun _ => rfl) al0 ?_
            refine w_ls [(0, aR 48 0), (1, aI l1), (2, aI l2), (3, aI (l3 + (nI 1)))] (lq_c rfl (lq_c rfl (lq_c rfl (lq_c rfl lq_n)))) ?_
            obtain rfl := Option.some.inj h
            exact ih3 _ _ _ (lpn_l hn2)
          · replace h := if_f c h
            refine w_sg k187 6 (pc' := 4) (ls' := [(0, aR 48 0), (1, aI l1), (2, aI (l2 + (nI 1))), (3, aI (l3 + (nI 1)))]) (st' := []) (cs' := []) (fun _ => rfl) al0 ?_
            refine w_ls [(0, aR 48 0), (1, aI l1), (2, aI (l2 + (nI 1))), (3, aI (l3 + (nI 1)))] (lq_c rfl (lq_c rfl (lq_c rfl (lq_c rfl lq_n)))) ?_
            obtain rfl := Option.some.inj h
            exact ih3 _ _ _ (lpn_l hn2)
  refine w_sg k187 4 (pc' := 4) (ls' := [(0, aR 48 0), (1, aI a1), (2, aI (nI 0)), (3, aI (nI 0))]) (st' := []) (cs' := []) (fun _ => rfl) al0 ?_
  refine w_ls [(0, aR 48 0), (1, aI a1), (2, aI (nI 0)), (3, aI (nI 0))] (lq_c rfl (lq_c rfl (lq_c rfl (lq_c rfl lq_n)))) ?_
  exact L4_0 _ _ _ _ _ h
set_option maxRecDepth 20000 in
set_option maxHeartbeats 4000000 in
/-- BallotBusModel.inLine -/
theorem sn_188 (a1 : Int32) (a2 : Int32) {Y : Sm} (v : Int32) (Z : Sm) (h : fn_188 a1 a2 Y = some (v, Z)) : Mt 8 0 188 [aR 48 0, aI a1, aI a2] Y (Rt (some (aI v)) Z) nX := by
  refine Mt_of [(0, aR 48 0), (1, aI a1), (2, aI a2)] ?_
  generalize ho : (v, Z) = o at h
  have hv9 : v = o.1 := congrArg Prod.fst ho
  have hZ9 : Z = o.2 := congrArg Prod.snd ho
  clear ho
  subst hv9 hZ9
  unfold fn_188 at h
  have L2_0 : ∀ (l1 : Int32) (l2 : Int32) (n : Nat) (l3 : Int32) (Y : Sm), lp (fun s => fn_188_L2 l1 l2 s.1 s.2) n (l3, Y) = some o → Wm 8 0 188 0 2 [(0, aR 48 0), (1, aI l1), (2, aI l2), (3, aI l3)] [] Y (Rt (some (aI o.1)) o.2) nX := by
    intro l1 l2 n
    induction n with
    | zero => intro l3 Y h; cases h
    | succ n ih3 =>
      intro l3 Y h
      obtain ⟨q1, h, hn2⟩ := lp_succ h
      replace h : fn_188_L2 l1 l2 l3 Y = some q1 := h
      unfold fn_188_L2 at h
      refine w_sg k188 5 (pc' := 10) (ls' := [(0, aR 48 0), (1, aI l1), (2, aI l2), (3, aI l3)]) (st' := [aI (gI Y.1 52 0 9), aI l3]) (cs' := [vp_in (nI 9) 718]) (fun _ => rfl) (al1 (vin rfl)) ?_
      refine w_icmp_ge k188 rfl (fun c => ?_) (fun c => ?_)
      · replace h := if_t c h
        refine w_sg k188 1 (pc' := 40) (ls' := [(0, aR 48 0), (1, aI l1), (2, aI l2), (3, aI l3)]) (st' := [aI (-1 : Int32)]) (cs' := []) (fun _ => rfl) al0 ?_
        obtain rfl := Option.some.inj h
        obtain rfl := lpn_r hn2
        exact w_ireturn k188 ⟨rfl, rfl⟩
      · replace h := if_f c h
        refine w_sg k188 3 (pc' := 16) (ls' := [(0, aR 48 0), (1, aI l1), (2, aI l2), (3, aI l3)]) (st' := [aI l1, aI l3, aR 48 0]) (cs' := []) (fun _ => rfl) al0 ?_
        obtain ⟨v6, Y4, hv5, h⟩ := bd_some h
        refine w_cV1 k188 (sn_186 _ _ _ _ hv5) rfl (st := []) rfl ?_ (fun _ _ q => q.elim)
        refine w_if_eq k188 rfl (fun c => ?_) (fun c => ?_)
        · replace h := if_t c h
          refine w_sg k188 2 (pc' := 2) (ls' := [(0, aR 48 0), (1, aI l1), (2, aI l2), (3, aI (l3 + (nI 1)))]) (st' := []) (cs' := []) (fun _ => rfl) al0 ?_
          refine w_ls [(0, aR 48 0), (1, aI l1), (2, aI l2), (3, aI (l3 + (nI 1)))] (lq_c rfl (lq_c rfl (lq_c rfl (lq_c rfl lq_n)))) ?_
          obtain rfl := Option.some.inj h
          exact ih3 _ _ (lpn_l hn2)
        · replace h := if_f c h
          refine w_sg k188 2 (pc' := 24) (ls' := [(0, aR 48 0), (1, aI l1), (2, aI l2), (3, aI l3)]) (st' := [aI l3, aR 48 0]) (cs' := []) (fun _ => rfl) al0 ?_
          obtain ⟨v9, Y7, hv8, h⟩ := bd_some h
          refine w_cV1 k188 (sn_187 _ _ _ hv8) rfl (st := []) rfl ?_ (fun _ _ q => q.elim)
          refine w_sg k188 1 (pc' := 28) (ls' := [(0, aR 48 0), (1, aI l1), (2, aI l2), (3, aI l3)]) (st' := [aI l2, aI v9]) (cs' := []) (fun _ => rfl) al0 ?_
          refine w_icmp_ne k188 rfl (fun c => ?_) (fun c => ?_)
          · replace h := if_f c h
            refine w_sg k188 2 (pc' := 2) (ls' := [(0, aR 48 0), (1, aI l1), (2, aI l2), (3, aI (l3 + (nI 1)))]) (st' := []) (cs' := []) (fun _ => rfl) al0 ?_
            refine w_ls [(0, aR 48 0), (1, aI l1), (2, aI l2), (3, aI (l3 + (nI 1)))] (lq_c rfl (lq_c rfl (lq_c rfl (lq_c rfl lq_n)))) ?_
            obtain rfl := Option.some.inj h
            exact ih3 _ _ (lpn_l hn2)
          · replace h := if_t c h
            refine w_sg k188 1 (pc' := 32) (ls' := [(0, aR 48 0), (1, aI l1), (2, aI l2), (3, aI l3)]) (st' := [aI l3]) (cs' := []) (fun _ => rfl) al0 ?_
            obtain rfl := Option.some.inj h
            obtain rfl := lpn_r hn2
            exact w_ireturn k188 ⟨rfl, rfl⟩
  refine w_sg k188 2 (pc' := 2) (ls' := [(0, aR 48 0), (1, aI a1), (2, aI a2), (3, aI (nI 0))]) (st' := []) (cs' := []) (fun _ => rfl) al0 ?_
  refine w_ls [(0, aR 48 0), (1, aI a1), (2, aI a2), (3, aI (nI 0))] (lq_c rfl (lq_c rfl (lq_c rfl (lq_c rfl lq_n)))) ?_
  exact L2_0 _ _ _ _ _ h
set_option maxRecDepth 20000 in
set_option maxHeartbeats 4000000 in
/-- BallotBusModel.takesNext -/
theorem sn_202 {Y : Sm} (v : Unit) (Z : Sm) (h : fn_202 Y = some (v, Z)) : Mt 9 0 202 [aR 48 0] Y (Rt none Z) nX := by
  refine Mt_of [(0, aR 48 0)] ?_
  generalize ho : (v, Z) = o at h
  have hv9 : v = o.1 := congrArg Prod.fst ho
  have hZ9 : Z = o.2 := congrArg Prod.snd ho
  clear ho
  subst hv9 hZ9
  unfold fn_202 at h
  have L2_0 : ∀ (n : Nat) (l1 : Int32) (Y : Sm) (e4 : (Int32 × Sm) ⊕ (Unit × Sm)), lp (fun s => fn_202_L2 s.1 s.2) n (l1, Y) = some e4 → (∀ s9 : (Int32 × Sm), e4 = .inl s9 → Wm 9 0 202 0 52 [(0, aR 48 0), (3, aI s9.1)] [] s9.2 (Rt none o.2) nX) → (∀ r, e4 = .inr r → r = o) → Wm 9 0 202 0 2 [(0, aR 48 0), (1, aI l1)] [] Y (Rt none o.2) nX := by
    intro n
    induction n with
    | zero => intro l1 Y e4 h; cases h
    | succ n ih3 =>
      intro l1 Y e4 h kE5 kR6
      obtain ⟨q1, h, hn2⟩ := lp_succ h
      replace h : fn_202_L2 l1 Y = some q1 := h
      unfold fn_202_L2 at h
      have J43_0 : ∀ (l1 : Int32) (t0 : Int32) (Y : Sm), fn_202_J43_d1 l1 t0 Y = some q1 → Wm 9 0 202 0 43 [(0, aR 48 0), (1, aI l1)] [aI t0] Y (Rt none o.2) nX := by
        intro l1 t0 Y h
        unfold fn_202_J43_d1 at h
        refine w_sg k202 3 (pc' := 46) (ls' := [(0, aR 48 0), (1, aI l1), (3, aI t0)]) (st' := [aI (-1 : Int32), aI t0]) (cs' := []) (fun _ => rfl) al0 ?_
        refine w_icmp_ne k202 rfl (fun c => ?_) (fun c => ?_)
        · replace h := if_f c h
          refine w_ls [(0, aR 48 0), (3, aI t0)] (lq_c rfl (lq_c rfl lq_n)) ?_
          obtain rfl := Option.some.inj h
          obtain rfl := lpn_r hn2
          exact kE5 _ rfl
        · replace h := if_t c h
          refine w_sg k202 3 (pc' := 2) (ls' := [(0, aR 48 0), (1, aI (l1 + (nI 1))), (3, aI t0)]) (st' := []) (cs' := []) (fun _ => rfl) al0 ?_
          refine w_ls [(0, aR 48 0), (1, aI (l1 + (nI 1)))] (lq_c rfl (lq_c rfl lq_n)) ?_
          obtain rfl := Option.some.inj h
          exact ih3 _ _ _ (lpn_l hn2) kE5 kR6
      refine w_sg k202 3 (pc' := 7) (ls' := [(0, aR 48 0), (1, aI l1)]) (st' := [aI (gI Y.1 48 0 1), aI l1]) (cs' := []) (fun _ => rfl) al0 ?_
      refine w_icmp_ge k202 rfl (fun c => ?_) (fun c => ?_)
      · replace h := if_t c h
        obtain rfl := Option.some.inj h
        obtain rfl := lpn_r hn2
        obtain rfl := kR6 _ rfl
        exact w_return k202 ⟨rfl, rfl⟩
      · replace h := if_f c h
        obtain ⟨hc7, h⟩ := ck_some h
        refine w_sg k202 12 (pc' := 27) (ls' := [(0, aR 48 0), (1, aI l1), (2, aI (gI Y.1 52 0 (ix ((nI 10) + l1))))]) (st' := [aI (gI Y.1 52 0 (ix ((nI 10) + l1))), aI (gI Y.1 52 0 4)]) (cs' := [vp_in ((nI 10) + l1) 718, vp_in (nI 4) 718]) (fun _ => rfl) (al2 (vin hc7) (al1 (vin rfl))) ?_
        obtain ⟨v10, Y8, hv9, h⟩ := bd_some h
        refine w_cS1 k202 (sn_167 _ _ _ _ hv9) rfl (st := []) rfl ?_ (fun _ _ q => q.elim)
        refine w_if_eq k202 rfl (fun c => ?_) (fun c => ?_)
        · replace h := if_t c h
          refine w_sg k202 3 (pc' := 40) (ls' := [(0, aR 48 0), (1, aI l1), (2, aI (gI Y.1 52 0 (ix ((nI 10) + l1))))]) (st' := [aI (nI 0), aI (gI Y.1 52 0 (ix ((nI 10) + l1))), aR 48 0]) (cs' := []) (fun _ => rfl) al0 ?_
          obtain ⟨v13, Y11, hv12, h⟩ := bd_some h
          refine w_cV1 k202 (sn_188 _ _ _ _ hv12) rfl (st := []) rfl ?_ (fun _ _ q => q.elim)
          refine w_ls [(0, aR 48 0), (1, aI l1)] (lq_c rfl (lq_c rfl lq_n)) ?_
          exact J43_0 _ _ _ h
        · replace h := if_f c h
          refine w_sg k202 2 (pc' := 43) (ls' := [(0, aR 48 0), (1, aI l1), (2, aI (gI Y.1 52 0 (ix ((nI 10) + l1))))]) (st' := [aI (-1 : Int32)]) (cs' := []) (fun _ => rfl) al0 ?_
          refine w_ls [(0, aR 48 0), (1, aI l1)] (lq_c rfl (lq_c rfl lq_n)) ?_
          exact J43_0 _ _ _ h
  have J52_0 : ∀ (l3 : Int32) (Y : Sm), fn_202_J52 l3 Y = some o → Wm 9 0 202 0 52 [(0, aR 48 0), (3, aI l3)] [] Y (Rt none o.2) nX := by
    intro l3 Y h
    unfold fn_202_J52 at h
    refine w_sg k202 6 (pc' := 61) (ls' := [(0, aR 48 0), (3, aI l3)]) (st' := [aI (nI 0), aI l3, aR 48 0, aI (nI 8), aR 52 0]) (cs' := []) (fun _ => rfl) al0 ?_
    obtain ⟨v16, Y14, hv15, h⟩ := bd_some h
    refine w_cV1 k202 (sn_178 _ _ _ _ hv15) rfl (st := [aI (nI 8), aR 52 0]) rfl ?_ (fun _ _ q => q.elim)
    refine w_sw k202 1 (Z := (sI Y14 52 0 8 v16)) (pc' := 65) (ls' := [(0, aR 48 0), (3, aI l3)]) (st' := []) (cs' := [vp_in (nI 8) 718, allw 52 0]) (fun _ => rfl) rfl (al2 (vin rfl) (al1 rfl)) ?_
    replace h := wr_some h
    generalize (sI Y14 52 0 8 v16) = Y17 at h ⊢
    obtain rfl := Option.some.inj h
    exact w_return k202 ⟨rfl, rfl⟩
  refine w_sg k202 2 (pc' := 2) (ls' := [(0, aR 48 0), (1, aI (nI 0))]) (st' := []) (cs' := []) (fun _ => rfl) al0 ?_
  obtain ⟨e20, hl18, hx19⟩ := exd_some h
  refine w_ls [(0, aR 48 0), (1, aI (nI 0))] (lq_c rfl (lq_c rfl lq_n)) ?_
  refine L2_0 _ _ _ e20 hl18 (fun s9 hs9 => ?_) (fun r9 hr9 => ?_)
  · subst hs9
    replace h : fn_202_J52 s9.1 s9.2 = some o := hx19
    refine w_ls [(0, aR 48 0), (3, aI s9.1)] (lq_c rfl (lq_c rfl lq_n)) ?_
    exact J52_0 _ _ h
  · subst hr9
    exact hx19
set_option maxRecDepth 20000 in
set_option maxHeartbeats 4000000 in
/-- BallotBusModel.passesOn -/
theorem sn_201 {Y : Sm} (v : Unit) (Z : Sm) (h : fn_201 Y = some (v, Z)) : Mt 5 0 201 [aR 48 0] Y (Rt none Z) nX := by
  refine Mt_of [(0, aR 48 0)] ?_
  generalize ho : (v, Z) = o at h
  have hv9 : v = o.1 := congrArg Prod.fst ho
  have hZ9 : Z = o.2 := congrArg Prod.snd ho
  clear ho
  subst hv9 hZ9
  unfold fn_201 at h
  have J41_0 : ∀ (l1 : Int32) (Y : Sm), fn_201_J41 l1 Y = some o → Wm 5 0 201 0 41 [(0, aR 48 0), (1, aI l1)] [] Y (Rt none o.2) nX := by
    intro l1 Y h
    unfold fn_201_J41 at h
    refine w_sw k201 5 (Z := (sI Y 52 0 3 (nI 0))) (pc' := 48) (ls' := [(0, aR 48 0), (1, aI l1)]) (st' := []) (cs' := [vp_in (nI 3) 718, allw 52 0]) (fun _ => rfl) rfl (al2 (vin rfl) (al1 rfl)) ?_
    replace h := wr_some h
    generalize (sI Y 52 0 3 (nI 0)) = Y1 at h ⊢
    obtain ⟨hc2, h⟩ := ck_some h
    refine w_sw k201 10 (Z := (sI Y1 52 0 2 ((l1 + (nI 1)) - (l1 + (nI 1)) / (gI Y1.1 48 0 2) * (gI Y1.1 48 0 2)))) (pc' := 62) (ls' := [(0, aR 48 0), (1, aI l1)]) (st' := []) (cs' := [¬ (gI Y1.1 48 0 2) = 0, vp_in (nI 2) 718, allw 52 0]) (fun _ => rfl) rfl (al2 (nz_of hc2) (al2 (vin rfl) (al1 rfl))) ?_
    replace h := wr_some h
    generalize (sI Y1 52 0 2 ((l1 + (nI 1)) - (l1 + (nI 1)) / (gI Y1.1 48 0 2) * (gI Y1.1 48 0 2))) = Y3 at h ⊢
    obtain rfl := Option.some.inj h
    exact w_return k201 ⟨rfl, rfl⟩
  refine w_sg k201 9 (pc' := 13) (ls' := [(0, aR 48 0), (1, aI (gI Y.1 52 0 2))]) (st' := [aI (gI Y.1 52 0 3)]) (cs' := [vp_in (nI 2) 718, vp_in (nI 3) 718]) (fun _ => rfl) (al2 (vin rfl) (al1 (vin rfl))) ?_
  refine w_if_ne k201 rfl (fun c => ?_) (fun c => ?_)
  · replace h := if_f c h
    refine w_ls [(0, aR 48 0), (1, aI (gI Y.1 52 0 2))] (lq_c rfl (lq_c rfl lq_n)) ?_
    exact J41_0 _ _ h
  · replace h := if_t c h
    obtain ⟨hc4, h⟩ := ck_some h
    refine w_sg k201 14 (pc' := 37) (ls' := [(0, aR 48 0), (1, aI (gI Y.1 52 0 2))]) (st' := [aI ((gI Y.1 52 0 (ix ((nI 36) + (gI Y.1 52 0 2)))) + (nI 1)), aI (nI 99), aI ((nI 36) + (gI Y.1 52 0 2)), aR 52 0]) (cs' := [vp_in ((nI 36) + (gI Y.1 52 0 2)) 718]) (fun _ => rfl) (al1 (vin hc4)) ?_
    obtain ⟨v7, Y5, hv6, h⟩ := bd_some h
    refine w_cS1 k201 (sn_168 _ _ _ _ hv6) rfl (st := [aI ((nI 36) + (gI Y.1 52 0 2)), aR 52 0]) rfl ?_ (fun _ _ q => q.elim)
    refine w_sw k201 1 (Z := (sI Y5 52 0 (ix ((nI 36) + (gI Y.1 52 0 2))) v7)) (pc' := 41) (ls' := [(0, aR 48 0), (1, aI (gI Y.1 52 0 2))]) (st' := []) (cs' := [vp_in ((nI 36) + (gI Y.1 52 0 2)) 718, allw 52 0]) (fun _ => rfl) rfl (al2 (vin hc4) (al1 rfl)) ?_
    replace h := wr_some h
    generalize (sI Y5 52 0 (ix ((nI 36) + (gI Y.1 52 0 2))) v7) = Y8 at h ⊢
    refine w_ls [(0, aR 48 0), (1, aI (gI Y.1 52 0 2))] (lq_c rfl (lq_c rfl lq_n)) ?_
    exact J41_0 _ _ h
set_option maxRecDepth 20000 in
set_option maxHeartbeats 4000000 in
/-- BallotBusModel.counts -/
theorem sn_189 (a1 : Int32) {Y : Sm} (v : Int32) (Z : Sm) (h : fn_189 a1 Y = some (v, Z)) : Mt 4 0 189 [aR 48 0, aI a1] Y (Rt (some (aI v)) Z) nX := by
  refine Mt_of [(0, aR 48 0), (1, aI a1)] ?_
  generalize ho : (v, Z) = o at h
  have hv9 : v = o.1 := congrArg Prod.fst ho
  have hZ9 : Z = o.2 := congrArg Prod.snd ho
  clear ho
  subst hv9 hZ9
  unfold fn_189 at h
  refine w_sg k189 3 (pc' := 5) (ls' := [(0, aR 48 0), (1, aI a1)]) (st' := [aI (gI Y.1 48 0 19), aI a1]) (cs' := []) (fun _ => rfl) al0 ?_
  refine w_icmp_eq k189 rfl (fun c => ?_) (fun c => ?_)
  · replace h := if_t c h
    refine w_sg k189 1 (pc' := 29) (ls' := [(0, aR 48 0), (1, aI a1)]) (st' := [aI (nI 0)]) (cs' := []) (fun _ => rfl) al0 ?_
    obtain rfl := Option.some.inj h
    exact w_zreturn k189 (Or.inl rfl) ⟨rfl, rfl⟩
  · replace h := if_f c h
    obtain ⟨hc1, h⟩ := ck_some h
    refine w_sg k189 8 (pc' := 21) (ls' := [(0, aR 48 0), (1, aI a1)]) (st' := [aI (gI Y.1 48 0 7), aI (gI Y.1 52 0 (ix ((nI 36) + a1)))]) (cs' := [vp_in ((nI 36) + a1) 718]) (fun _ => rfl) (al1 (vin hc1)) ?_
    refine w_icmp_ge k189 rfl (fun c => ?_) (fun c => ?_)
    · replace h := if_t c h
      refine w_sg k189 1 (pc' := 29) (ls' := [(0, aR 48 0), (1, aI a1)]) (st' := [aI (nI 0)]) (cs' := []) (fun _ => rfl) al0 ?_
      obtain rfl := Option.some.inj h
      exact w_zreturn k189 (Or.inl rfl) ⟨rfl, rfl⟩
    · replace h := if_f c h
      refine w_sg k189 2 (pc' := 29) (ls' := [(0, aR 48 0), (1, aI a1)]) (st' := [aI (nI 1)]) (cs' := []) (fun _ => rfl) al0 ?_
      obtain rfl := Option.some.inj h
      exact w_zreturn k189 (Or.inr rfl) ⟨rfl, rfl⟩
set_option maxRecDepth 20000 in
set_option maxHeartbeats 4000000 in
/-- BallotBusModel.doesAnyCount -/
theorem sn_190 {Y : Sm} (v : Int32) (Z : Sm) (h : fn_190 Y = some (v, Z)) : Mt 5 0 190 [aR 48 0] Y (Rt (some (aI v)) Z) nX := by
  refine Mt_of [(0, aR 48 0)] ?_
  generalize ho : (v, Z) = o at h
  have hv9 : v = o.1 := congrArg Prod.fst ho
  have hZ9 : Z = o.2 := congrArg Prod.snd ho
  clear ho
  subst hv9 hZ9
  unfold fn_190 at h
  have L2_0 : ∀ (n : Nat) (l1 : Int32) (Y : Sm), lp (fun s => fn_190_L2 s.1 s.2) n (l1, Y) = some o → Wm 5 0 190 0 2 [(0, aR 48 0), (1, aI l1)] [] Y (Rt (some (aI o.1)) o.2) nX := by
    intro n
    induction n with
    | zero => intro l1 Y h; cases h
    | succ n ih3 =>
      intro l1 Y h
      obtain ⟨q1, h, hn2⟩ := lp_succ h
      replace h : fn_190_L2 l1 Y = some q1 := h
      unfold fn_190_L2 at h
      refine w_sg k190 3 (pc' := 7) (ls' := [(0, aR 48 0), (1, aI l1)]) (st' := [aI (gI Y.1 48 0 2), aI l1]) (cs' := []) (fun _ => rfl) al0 ?_
      refine w_icmp_ge k190 rfl (fun c => ?_) (fun c => ?_)
      · replace h := if_t c h
        refine w_sg k190 1 (pc' := 27) (ls' := [(0, aR 48 0), (1, aI l1)]) (st' := [aI (nI 0)]) (cs' := []) (fun _ => rfl) al0 ?_
        obtain rfl := Option.some.inj h
        obtain rfl := lpn_r hn2
        exact w_zreturn k190 (Or.inl rfl) ⟨rfl, rfl⟩
      · replace h := if_f c h
        refine w_sg k190 2 (pc' := 12) (ls' := [(0, aR 48 0), (1, aI l1)]) (st' := [aI l1, aR 48 0]) (cs' := []) (fun _ => rfl) al0 ?_
        obtain ⟨v6, Y4, hv5, h⟩ := bd_some h
        refine w_cV1 k190 (sn_189 _ _ _ hv5) rfl (st := []) rfl ?_ (fun _ _ q => q.elim)
        refine w_if_eq k190 rfl (fun c => ?_) (fun c => ?_)
        · replace h := if_t c h
          refine w_sg k190 2 (pc' := 2) (ls' := [(0, aR 48 0), (1, aI (l1 + (nI 1)))]) (st' := []) (cs' := []) (fun _ => rfl) al0 ?_
          refine w_ls [(0, aR 48 0), (1, aI (l1 + (nI 1)))] (lq_c rfl (lq_c rfl lq_n)) ?_
          obtain rfl := Option.some.inj h
          exact ih3 _ _ (lpn_l hn2)
        · replace h := if_f c h
          refine w_sg k190 1 (pc' := 19) (ls' := [(0, aR 48 0), (1, aI l1)]) (st' := [aI (nI 1)]) (cs' := []) (fun _ => rfl) al0 ?_
          obtain rfl := Option.some.inj h
          obtain rfl := lpn_r hn2
          exact w_zreturn k190 (Or.inr rfl) ⟨rfl, rfl⟩
  refine w_sg k190 2 (pc' := 2) (ls' := [(0, aR 48 0), (1, aI (nI 0))]) (st' := []) (cs' := []) (fun _ => rfl) al0 ?_
  refine w_ls [(0, aR 48 0), (1, aI (nI 0))] (lq_c rfl (lq_c rfl lq_n)) ?_
  exact L2_0 _ _ _ h
set_option maxRecDepth 20000 in
set_option maxHeartbeats 4000000 in
/-- BallotBusModel.onBallot -/
theorem sn_191 (a1 : Int32) (a2 : Int32) {Y : Sm} (v : Int32) (Z : Sm) (h : fn_191 a1 a2 Y = some (v, Z)) : Mt 4 0 191 [aR 48 0, aI a1, aI a2] Y (Rt (some (aI v)) Z) nX := by
  refine Mt_of [(0, aR 48 0), (1, aI a1), (2, aI a2)] ?_
  generalize ho : (v, Z) = o at h
  have hv9 : v = o.1 := congrArg Prod.fst ho
  have hZ9 : Z = o.2 := congrArg Prod.snd ho
  clear ho
  subst hv9 hZ9
  unfold fn_191 at h
  obtain ⟨hc1, h⟩ := ck_some h
  refine w_sg k191 10 (pc' := 13) (ls' := [(0, aR 48 0), (1, aI a1), (2, aI a2)]) (st' := [aI (gI Y.1 52 0 (ix (((nI 78) + ((nI 5) * a1)) + a2)))]) (cs' := [vp_in (((nI 78) + ((nI 5) * a1)) + a2) 718]) (fun _ => rfl) (al1 (vin hc1)) ?_
  obtain rfl := Option.some.inj h
  exact w_ireturn k191 ⟨rfl, rfl⟩
set_option maxRecDepth 20000 in
set_option maxHeartbeats 4000000 in
/-- BallotBusModel.placeOf -/
theorem sn_192 (a1 : Int32) (a2 : Int32) {Y : Sm} (v : Int32) (Z : Sm) (h : fn_192 a1 a2 Y = some (v, Z)) : Mt 5 0 192 [aR 48 0, aI a1, aI a2] Y (Rt (some (aI v)) Z) nX := by
  refine Mt_of [(0, aR 48 0), (1, aI a1), (2, aI a2)] ?_
  generalize ho : (v, Z) = o at h
  have hv9 : v = o.1 := congrArg Prod.fst ho
  have hZ9 : Z = o.2 := congrArg Prod.snd ho
  clear ho
  subst hv9 hZ9
  unfold fn_192 at h
  have L2_0 : ∀ (l1 : Int32) (l2 : Int32) (n : Nat) (l3 : Int32) (Y : Sm), lp (fun s => fn_192_L2 l1 l2 s.1 s.2) n (l3, Y) = some o → Wm 5 0 192 0 2 [(0, aR 48 0), (1, aI l1), (2, aI l2), (3, aI l3)] [] Y (Rt (some (aI o.1)) o.2) nX := by
    intro l1 l2 n
    induction n with
    | zero => intro l3 Y h; cases h
    | succ n ih3 =>
      intro l3 Y h
      obtain ⟨q1, h, hn2⟩ := lp_succ h
      replace h : fn_192_L2 l1 l2 l3 Y = some q1 := h
      unfold fn_192_L2 at h
      refine w_sg k192 3 (pc' := 5) (ls' := [(0, aR 48 0), (1, aI l1), (2, aI l2), (3, aI l3)]) (st' := [aI l3, aI l1, aR 48 0]) (cs' := []) (fun _ => rfl) al0 ?_
      obtain ⟨v6, Y4, hv5, h⟩ := bd_some h
      refine w_cV1 k192 (sn_191 _ _ _ _ hv5) rfl (st := []) rfl ?_ (fun _ _ q => q.elim)
      refine w_sg k192 1 (pc' := 9) (ls' := [(0, aR 48 0), (1, aI l1), (2, aI l2), (3, aI l3)]) (st' := [aI l2, aI v6]) (cs' := []) (fun _ => rfl) al0 ?_
      refine w_icmp_eq k192 rfl (fun c => ?_) (fun c => ?_)
      · replace h := if_t c h
        refine w_sg k192 1 (pc' := 20) (ls' := [(0, aR 48 0), (1, aI l1), (2, aI l2), (3, aI l3)]) (st' := [aI l3]) (cs' := []) (fun _ => rfl) al0 ?_
        obtain rfl := Option.some.inj h
        obtain rfl := lpn_r hn2
        exact w_ireturn k192 ⟨rfl, rfl⟩
      · replace h := if_f c h
        refine w_sg k192 5 (pc' := 2) (ls' := [(0, aR 48 0), (1, aI l1), (2, aI l2), (3, aI (l3 + (nI 1)))]) (st' := []) (cs' := []) (fun _ => rfl) al0 ?_
        refine w_ls [(0, aR 48 0), (1, aI l1), (2, aI l2), (3, aI (l3 + (nI 1)))] (lq_c rfl (lq_c rfl (lq_c rfl (lq_c rfl lq_n)))) ?_
        obtain rfl := Option.some.inj h
        exact ih3 _ _ (lpn_l hn2)
  refine w_sg k192 2 (pc' := 2) (ls' := [(0, aR 48 0), (1, aI a1), (2, aI a2), (3, aI (nI 0))]) (st' := []) (cs' := []) (fun _ => rfl) al0 ?_
  refine w_ls [(0, aR 48 0), (1, aI a1), (2, aI a2), (3, aI (nI 0))] (lq_c rfl (lq_c rfl (lq_c rfl (lq_c rfl lq_n)))) ?_
  exact L2_0 _ _ _ _ _ h
set_option maxRecDepth 20000 in
set_option maxHeartbeats 4000000 in
/-- BallotBusModel.pointsOf -/
theorem sn_193 (a1 : Int32) {Y : Sm} (v : Int32) (Z : Sm) (h : fn_193 a1 Y = some (v, Z)) : Mt 6 0 193 [aR 48 0, aI a1] Y (Rt (some (aI v)) Z) nX := by
  refine Mt_of [(0, aR 48 0), (1, aI a1)] ?_
  generalize ho : (v, Z) = o at h
  have hv9 : v = o.1 := congrArg Prod.fst ho
  have hZ9 : Z = o.2 := congrArg Prod.snd ho
  clear ho
  subst hv9 hZ9
  unfold fn_193 at h
  have L4_0 : ∀ (l1 : Int32) (n : Nat) (l2 : Int32) (l3 : Int32) (Y : Sm), lp (fun s => fn_193_L4 l1 s.1 s.2.1 s.2.2) n (l2, l3, Y) = some o → Wm 6 0 193 0 4 [(0, aR 48 0), (1, aI l1), (2, aI l2), (3, aI l3)] [] Y (Rt (some (aI o.1)) o.2) nX := by
    intro l1 n
    induction n with
    | zero => intro l2 l3 Y h; cases h
    | succ n ih3 =>
      intro l2 l3 Y h
      obtain ⟨q1, h, hn2⟩ := lp_succ h
      replace h : fn_193_L4 l1 l2 l3 Y = some q1 := h
      unfold fn_193_L4 at h
      refine w_sg k193 3 (pc' := 9) (ls' := [(0, aR 48 0), (1, aI l1), (2, aI l2), (3, aI l3)]) (st' := [aI (gI Y.1 48 0 2), aI l3]) (cs' := []) (fun _ => rfl) al0 ?_
      refine w_icmp_ge k193 rfl (fun c => ?_) (fun c => ?_)
      · replace h := if_t c h
        refine w_sg k193 1 (pc' := 50) (ls' := [(0, aR 48 0), (1, aI l1), (2, aI l2), (3, aI l3)]) (st' := [aI l2]) (cs' := []) (fun _ => rfl) al0 ?_
        obtain rfl := Option.some.inj h
        obtain rfl := lpn_r hn2
        exact w_ireturn k193 ⟨rfl, rfl⟩
      · replace h := if_f c h
        refine w_sg k193 2 (pc' := 14) (ls' := [(0, aR 48 0), (1, aI l1), (2, aI l2), (3, aI l3)]) (st' := [aI l3, aR 48 0]) (cs' := []) (fun _ => rfl) al0 ?_
        obtain ⟨v6, Y4, hv5, h⟩ := bd_some h
        refine w_cV1 k193 (sn_189 _ _ _ hv5) rfl (st := []) rfl ?_ (fun _ _ q => q.elim)
        refine w_if_eq k193 rfl (fun c => ?_) (fun c => ?_)
        · replace h := if_t c h
          refine w_sg k193 2 (pc' := 4) (ls' := [(0, aR 48 0), (1, aI l1), (2, aI l2), (3, aI (l3 + (nI 1)))]) (st' := []) (cs' := []) (fun _ => rfl) al0 ?_
          refine w_ls [(0, aR 48 0), (1, aI l1), (2, aI l2), (3, aI (l3 + (nI 1)))] (lq_c rfl (lq_c rfl (lq_c rfl (lq_c rfl lq_n)))) ?_
          obtain rfl := Option.some.inj h
          exact ih3 _ _ _ (lpn_l hn2)
        · replace h := if_f c h
          obtain ⟨hc7, h⟩ := ck_some h
          refine w_sg k193 12 (pc' := 36) (ls' := [(0, aR 48 0), (1, aI l1), (2, aI l2), (3, aI l3)]) (st' := [aI l1, aI l3, aR 48 0, aI ((gI Y4.1 48 0 1) - (nI 1)), aI (gI Y4.1 49 0 (ix l3)), aI l2]) (cs' := [vp_in l3 8]) (fun _ => rfl) (al1 (vin hc7)) ?_
          obtain ⟨v10, Y8, hv9, h⟩ := bd_some h
          refine w_cV1 k193 (sn_192 _ _ _ _ hv9) rfl (st := [aI ((gI Y4.1 48 0 1) - (nI 1)), aI (gI Y4.1 49 0 (ix l3)), aI l2]) rfl ?_ (fun _ _ q => q.elim)
          refine w_sg k193 6 (pc' := 4) (ls' := [(0, aR 48 0), (1, aI l1), (2, aI (l2 + ((gI Y4.1 49 0 (ix l3)) * (((gI Y4.1 48 0 1) - (nI 1)) - v10)))), (3, aI (l3 + (nI 1)))]) (st' := []) (cs' := []) (fun _ => rfl) al0 ?_
          refine w_ls [(0, aR 48 0), (1, aI l1), (2, aI (l2 + ((gI Y4.1 49 0 (ix l3)) * (((gI Y4.1 48 0 1) - (nI 1)) - v10)))), (3, aI (l3 + (nI 1)))] (lq_c rfl (lq_c rfl (lq_c rfl (lq_c rfl lq_n)))) ?_
          obtain rfl := Option.some.inj h
          exact ih3 _ _ _ (lpn_l hn2)
  refine w_sg k193 4 (pc' := 4) (ls' := [(0, aR 48 0), (1, aI a1), (2, aI (nI 0)), (3, aI (nI 0))]) (st' := []) (cs' := []) (fun _ => rfl) al0 ?_
  refine w_ls [(0, aR 48 0), (1, aI a1), (2, aI (nI 0)), (3, aI (nI 0))] (lq_c rfl (lq_c rfl (lq_c rfl (lq_c rfl lq_n)))) ?_
  exact L4_0 _ _ _ _ _ h
set_option maxRecDepth 20000 in
set_option maxHeartbeats 4000000 in
/-- BallotBusModel.leadOf -/
theorem sn_195 (a1 : Int32) (a2 : Int32) {Y : Sm} (v : Int32) (Z : Sm) (h : fn_195 a1 a2 Y = some (v, Z)) : Mt 6 0 195 [aR 48 0, aI a1, aI a2] Y (Rt (some (aI v)) Z) nX := by
  refine Mt_of [(0, aR 48 0), (1, aI a1), (2, aI a2)] ?_
  generalize ho : (v, Z) = o at h
  have hv9 : v = o.1 := congrArg Prod.fst ho
  have hZ9 : Z = o.2 := congrArg Prod.snd ho
  clear ho
  subst hv9 hZ9
  unfold fn_195 at h
  have L5_0 : ∀ (l1 : Int32) (l2 : Int32) (n : Nat) (l3 : Int32) (l4 : Int32) (Y : Sm), lp (fun s => fn_195_L5 l1 l2 s.1 s.2.1 s.2.2) n (l3, l4, Y) = some o → Wm 6 0 195 0 5 [(0, aR 48 0), (1, aI l1), (2, aI l2), (3, aI l3), (4, aI l4)] [] Y (Rt (some (aI o.1)) o.2) nX := by
    intro l1 l2 n
    induction n with
    | zero => intro l3 l4 Y h; cases h
    | succ n ih3 =>
      intro l3 l4 Y h
      obtain ⟨q1, h, hn2⟩ := lp_succ h
      replace h : fn_195_L5 l1 l2 l3 l4 Y = some q1 := h
      unfold fn_195_L5 at h
      refine w_sg k195 3 (pc' := 11) (ls' := [(0, aR 48 0), (1, aI l1), (2, aI l2), (3, aI l3), (4, aI l4)]) (st' := [aI (gI Y.1 48 0 2), aI l4]) (cs' := []) (fun _ => rfl) al0 ?_
      refine w_icmp_ge k195 rfl (fun c => ?_) (fun c => ?_)
      · replace h := if_t c h
        refine w_sg k195 1 (pc' := 71) (ls' := [(0, aR 48 0), (1, aI l1), (2, aI l2), (3, aI l3), (4, aI l4)]) (st' := [aI l3]) (cs' := []) (fun _ => rfl) al0 ?_
        obtain rfl := Option.some.inj h
        obtain rfl := lpn_r hn2
        exact w_ireturn k195 ⟨rfl, rfl⟩
      · replace h := if_f c h
        refine w_sg k195 2 (pc' := 17) (ls' := [(0, aR 48 0), (1, aI l1), (2, aI l2), (3, aI l3), (4, aI l4)]) (st' := [aI l4, aR 48 0]) (cs' := []) (fun _ => rfl) al0 ?_
        obtain ⟨v6, Y4, hv5, h⟩ := bd_some h
        refine w_cV1 k195 (sn_189 _ _ _ hv5) rfl (st := []) rfl ?_ (fun _ _ q => q.elim)
        refine w_if_ne k195 rfl (fun c => ?_) (fun c => ?_)
        · replace h := if_f c h
          refine w_sg k195 4 (pc' := 31) (ls' := [(0, aR 48 0), (1, aI l1), (2, aI l2), (3, aI l3), (4, aI l4)]) (st' := [aI l1, aI l4, aR 48 0, aI l3]) (cs' := []) (fun _ => rfl) al0 ?_
          obtain ⟨v9, Y7, hv8, h⟩ := bd_some h
          refine w_cV1 k195 (sn_192 _ _ _ _ hv8) rfl (st := [aI l3]) rfl ?_ (fun _ _ q => q.elim)
          refine w_sg k195 3 (pc' := 38) (ls' := [(0, aR 48 0), (1, aI l1), (2, aI l2), (3, aI l3), (4, aI l4)]) (st' := [aI l2, aI l4, aR 48 0, aI v9, aI l3]) (cs' := []) (fun _ => rfl) al0 ?_
          obtain ⟨v12, Y10, hv11, h⟩ := bd_some h
          refine w_cV1 k195 (sn_192 _ _ _ _ hv11) rfl (st := [aI v9, aI l3]) rfl ?_ (fun _ _ q => q.elim)
          refine w_icmp_ge k195 rfl (fun c => ?_) (fun c => ?_)
          · replace h := if_t c h
            obtain ⟨hc13, h⟩ := ck_some h
            refine w_sg k195 9 (pc' := 5) (ls' := [(0, aR 48 0), (1, aI l1), (2, aI l2), (3, aI (l3 + (-(gI Y10.1 49 0 (ix l4))))), (4, aI (l4 + (nI 1)))]) (st' := []) (cs' := [vp_in l4 8]) (fun _ => rfl) (al1 (vin hc13)) ?_
            refine w_ls [(0, aR 48 0), (1, aI l1), (2, aI l2), (3, aI (l3 + (-(gI Y10.1 49 0 (ix l4))))), (4, aI (l4 + (nI 1)))] (lq_c rfl (lq_c rfl (lq_c rfl (lq_c rfl (lq_c rfl lq_n))))) ?_
            obtain rfl := Option.some.inj h
            exact ih3 _ _ _ (lpn_l hn2)
          · replace h := if_f c h
            obtain ⟨hc14, h⟩ := ck_some h
            refine w_sg k195 9 (pc' := 5) (ls' := [(0, aR 48 0), (1, aI l1), (2, aI l2), (3, aI (l3 + (gI Y10.1 49 0 (ix l4)))), (4, aI (l4 + (nI 1)))]) (st' := []) (cs' := [vp_in l4 8]) (fun _ => rfl) (al1 (vin hc14)) ?_
            refine w_ls [(0, aR 48 0), (1, aI l1), (2, aI l2), (3, aI (l3 + (gI Y10.1 49 0 (ix l4)))), (4, aI (l4 + (nI 1)))] (lq_c rfl (lq_c rfl (lq_c rfl (lq_c rfl (lq_c rfl lq_n))))) ?_
            obtain rfl := Option.some.inj h
            exact ih3 _ _ _ (lpn_l hn2)
        · replace h := if_t c h
          refine w_sg k195 3 (pc' := 5) (ls' := [(0, aR 48 0), (1, aI l1), (2, aI l2), (3, aI l3), (4, aI (l4 + (nI 1)))]) (st' := []) (cs' := []) (fun _ => rfl) al0 ?_
          refine w_ls [(0, aR 48 0), (1, aI l1), (2, aI l2), (3, aI l3), (4, aI (l4 + (nI 1)))] (lq_c rfl (lq_c rfl (lq_c rfl (lq_c rfl (lq_c rfl lq_n))))) ?_
          obtain rfl := Option.some.inj h
          exact ih3 _ _ _ (lpn_l hn2)
  refine w_sg k195 4 (pc' := 5) (ls' := [(0, aR 48 0), (1, aI a1), (2, aI a2), (3, aI (nI 0)), (4, aI (nI 0))]) (st' := []) (cs' := []) (fun _ => rfl) al0 ?_
  refine w_ls [(0, aR 48 0), (1, aI a1), (2, aI a2), (3, aI (nI 0)), (4, aI (nI 0))] (lq_c rfl (lq_c rfl (lq_c rfl (lq_c rfl (lq_c rfl lq_n))))) ?_
  exact L5_0 _ _ _ _ _ _ h
