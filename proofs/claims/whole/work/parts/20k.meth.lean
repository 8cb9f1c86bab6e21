/-! the code of the methods does what their functions say (printed by wip/whole/gen20.py) -/
set_option maxRecDepth 20000 in
set_option maxHeartbeats 4000000 in
/-- BallotBusModel.differences -/
theorem sn_247 (a1 : Int32) (a2 : Int32) {Y : Sm} (v : Int32) (Z : Sm) (h : fn_247 a1 a2 Y = some (v, Z)) : Mt 11 0 247 [aR 48 0, aI a1, aI a2] Y (Rt (some (aI v)) Z) nX := by
  refine Mt_of [(0, aR 48 0), (1, aI a1), (2, aI a2)] ?_
  generalize ho : (v, Z) = o at h
  have hv9 : v = o.1 := congrArg Prod.fst ho
  have hZ9 : Z = o.2 := congrArg Prod.snd ho
  clear ho
  subst hv9 hZ9
  unfold fn_247 at h
  have L35_0 : ∀ (l2 : Int32) (n : Nat) (l3 : Int32) (Y : Sm) (e12 : (Sm) ⊕ (Int32 × Sm)), lp (fun s => fn_247_L35 l2 s.1 s.2) n (l3, Y) = some e12 → (∀ s9 : (Sm), e12 = .inl s9 → Wm 11 0 247 0 61 [(0, aR 48 0), (2, aI l2)] [] s9 (Rt (some (aI o.1)) o.2) nX) → (∀ r, e12 = .inr r → r = o) → Wm 11 0 247 0 35 [(0, aR 48 0), (2, aI l2), (3, aI l3)] [] Y (Rt (some (aI o.1)) o.2) nX := by
    intro l2 n
    induction n with
    | zero => intro l3 Y e12 h; cases h
    | succ n ih11 =>
      intro l3 Y e12 h kE13 kR14
      obtain ⟨q9, h, hn10⟩ := lp_succ h
      replace h : fn_247_L35 l2 l3 Y = some q9 := h
      unfold fn_247_L35 at h
      refine w_sg k247 3 (pc' := 40) (ls' := [(0, aR 48 0), (2, aI l2), (3, aI l3)]) (st' := [aI (gI Y.1 48 0 1), aI l3]) (cs' := []) (fun _ => rfl) al0 ?_
      refine w_icmp_ge k247 rfl (fun c => ?_) (fun c => ?_)
      · replace h := if_t c h
        refine w_ls [(0, aR 48 0), (2, aI l2)] (lq_c rfl (lq_c rfl lq_n)) ?_
        obtain rfl := Option.some.inj h
        obtain rfl := lpn_r hn10
        exact kE13 (Y) rfl
      · replace h := if_f c h
        obtain ⟨hc15, h⟩ := ck_some h
        refine w_sw k247 8 (Z := (sI Y 59 0 (ix l3) (gI Y.1 58 0 (ix l3)))) (pc' := 55) (ls' := [(0, aR 48 0), (2, aI l2), (3, aI l3)]) (st' := []) (cs' := [vp_in l3 5, vp_in l3 5, allw 59 0]) (fun _ => rfl) rfl (al2 (vin hc15) (al2 (vin hc15) (al1 rfl))) ?_
        replace h := wr_some h
        generalize (sI Y 59 0 (ix l3) (gI Y.1 58 0 (ix l3))) = Y16 at h ⊢
        refine w_sg k247 1 (pc' := 58) (ls' := [(0, aR 48 0), (2, aI l2), (3, aI (l3 + (nI 1)))]) (st' := []) (cs' := []) (fun _ => rfl) al0 ?_
        refine w_sg k247 1 (pc' := 35) (ls' := [(0, aR 48 0), (2, aI l2), (3, aI (l3 + (nI 1)))]) (st' := []) (cs' := []) (fun _ => rfl) al0 ?_
        refine w_ls [(0, aR 48 0), (2, aI l2), (3, aI (l3 + (nI 1)))] (lq_c rfl (lq_c rfl (lq_c rfl lq_n))) ?_
        obtain rfl := Option.some.inj h
        exact ih11 _ _ _ (lpn_l hn10) kE13 kR14
  have L71_0 : ∀ (n : Nat) (l3 : Int32) (l4 : Int32) (Y : Sm), lp (fun s => fn_247_L71 s.1 s.2.1 s.2.2) n (l3, l4, Y) = some o → Wm 11 0 247 0 71 [(0, aR 48 0), (3, aI l3), (4, aI l4)] [] Y (Rt (some (aI o.1)) o.2) nX := by
    intro n
    induction n with
    | zero => intro l3 l4 Y h; cases h
    | succ n ih21 =>
      intro l3 l4 Y h
      obtain ⟨q19, h, hn20⟩ := lp_succ h
      replace h : fn_247_L71 l3 l4 Y = some q19 := h
      unfold fn_247_L71 at h
      have L86_0 : ∀ (l4 : Int32) (n : Nat) (l3 : Int32) (l5 : Int32) (Y : Sm), lp (fun s => fn_247_L86_d1 l4 s.1 s.2.1 s.2.2) n (l3, l5, Y) = some q19 → Wm 11 0 247 0 86 [(0, aR 48 0), (3, aI l3), (4, aI l4), (5, aI l5)] [] Y (Rt (some (aI o.1)) o.2) nX := by
        intro l4 n
        induction n with
        | zero => intro l3 l5 Y h; cases h
        | succ n ih24 =>
          intro l3 l5 Y h
          obtain ⟨q22, h, hn23⟩ := lp_succ h
          replace h : fn_247_L86_d1 l4 l3 l5 Y = some q22 := h
          unfold fn_247_L86_d1 at h
          refine w_sg k247 3 (pc' := 92) (ls' := [(0, aR 48 0), (3, aI l3), (4, aI l4), (5, aI l5)]) (st' := [aI (gI Y.1 48 0 1), aI l5]) (cs' := []) (fun _ => rfl) al0 ?_
          refine w_icmp_ge k247 rfl (fun c => ?_) (fun c => ?_)
          · replace h := if_t c h
            refine w_sg k247 1 (pc' := 133) (ls' := [(0, aR 48 0), (3, aI l3), (4, aI (l4 + (nI 1))), (5, aI l5)]) (st' := []) (cs' := []) (fun _ => rfl) al0 ?_
            refine w_sg k247 1 (pc' := 71) (ls' := [(0, aR 48 0), (3, aI l3), (4, aI (l4 + (nI 1))), (5, aI l5)]) (st' := []) (cs' := []) (fun _ => rfl) al0 ?_
            refine w_ls [(0, aR 48 0), (3, aI l3), (4, aI (l4 + (nI 1)))] (lq_c rfl (lq_c rfl (lq_c rfl lq_n))) ?_
            obtain rfl := Option.some.inj h
            obtain rfl := lpn_r hn23
            exact ih21 _ _ _ (lpn_l hn20)
          · replace h := if_f c h
            obtain ⟨hc25, h⟩ := ck_some h
            refine w_sg k247 5 (pc' := 103) (ls' := [(0, aR 48 0), (3, aI l3), (4, aI l4), (5, aI l5)]) (st' := [aI (gI Y.1 59 0 (ix l4)), aR 48 0]) (cs' := [vp_in l4 5]) (fun _ => rfl) (al1 (vin hc25)) ?_
            obtain ⟨v28, Y26, hv27, h⟩ := bd_some h
            refine w_cV1 k247 (sn_246 _ _ _ hv27) rfl (st := []) rfl ?_ (fun _ _ q => q.elim)
            obtain ⟨hc29, h⟩ := ck_some h
            refine w_sg k247 5 (pc' := 114) (ls' := [(0, aR 48 0), (3, aI l3), (4, aI l4), (5, aI l5)]) (st' := [aI (gI Y26.1 59 0 (ix l5)), aR 48 0, aI v28]) (cs' := [vp_in l5 5]) (fun _ => rfl) (al1 (vin hc29)) ?_
            obtain ⟨v32, Y30, hv31, h⟩ := bd_some h
            refine w_cV1 k247 (sn_246 _ _ _ hv31) rfl (st := [aI v28]) rfl ?_ (fun _ _ q => q.elim)
            refine w_icmp_le k247 rfl (fun c => ?_) (fun c => ?_)
            · replace h := if_t c h
              refine w_sg k247 1 (pc' := 127) (ls' := [(0, aR 48 0), (3, aI l3), (4, aI l4), (5, aI (l5 + (nI 1)))]) (st' := []) (cs' := []) (fun _ => rfl) al0 ?_
              refine w_sg k247 1 (pc' := 86) (ls' := [(0, aR 48 0), (3, aI l3), (4, aI l4), (5, aI (l5 + (nI 1)))]) (st' := []) (cs' := []) (fun _ => rfl) al0 ?_
              refine w_ls [(0, aR 48 0), (3, aI l3), (4, aI l4), (5, aI (l5 + (nI 1)))] (lq_c rfl (lq_c rfl (lq_c rfl (lq_c rfl lq_n)))) ?_
              obtain rfl := Option.some.inj h
              exact ih24 _ _ _ (lpn_l hn23)
            · replace h := if_f c h
              refine w_sg k247 4 (pc' := 124) (ls' := [(0, aR 48 0), (3, aI (l3 + (nI 1))), (4, aI l4), (5, aI l5)]) (st' := []) (cs' := []) (fun _ => rfl) al0 ?_
              refine w_sg k247 1 (pc' := 127) (ls' := [(0, aR 48 0), (3, aI (l3 + (nI 1))), (4, aI l4), (5, aI (l5 + (nI 1)))]) (st' := []) (cs' := []) (fun _ => rfl) al0 ?_
              refine w_sg k247 1 (pc' := 86) (ls' := [(0, aR 48 0), (3, aI (l3 + (nI 1))), (4, aI l4), (5, aI (l5 + (nI 1)))]) (st' := []) (cs' := []) (fun _ => rfl) al0 ?_
              refine w_ls [(0, aR 48 0), (3, aI (l3 + (nI 1))), (4, aI l4), (5, aI (l5 + (nI 1)))] (lq_c rfl (lq_c rfl (lq_c rfl (lq_c rfl lq_n)))) ?_
              obtain rfl := Option.some.inj h
              exact ih24 _ _ _ (lpn_l hn23)
      refine w_sg k247 3 (pc' := 77) (ls' := [(0, aR 48 0), (3, aI l3), (4, aI l4)]) (st' := [aI (gI Y.1 48 0 1), aI l4]) (cs' := []) (fun _ => rfl) al0 ?_
      refine w_icmp_ge k247 rfl (fun c => ?_) (fun c => ?_)
      · replace h := if_t c h
        refine w_sg k247 1 (pc' := 137) (ls' := [(0, aR 48 0), (3, aI l3), (4, aI l4)]) (st' := [aI l3]) (cs' := []) (fun _ => rfl) al0 ?_
        obtain rfl := Option.some.inj h
        obtain rfl := lpn_r hn20
        exact w_ireturn k247 ⟨rfl, rfl⟩
      · replace h := if_f c h
        refine w_sg k247 4 (pc' := 86) (ls' := [(0, aR 48 0), (3, aI l3), (4, aI l4), (5, aI (l4 + (nI 1)))]) (st' := []) (cs' := []) (fun _ => rfl) al0 ?_
        refine w_ls [(0, aR 48 0), (3, aI l3), (4, aI l4), (5, aI (l4 + (nI 1)))] (lq_c rfl (lq_c rfl (lq_c rfl (lq_c rfl lq_n)))) ?_
        exact L86_0 _ _ _ _ _ h
  have J61_0 : ∀ (l2 : Int32) (Y : Sm), fn_247_J61 l2 Y = some o → Wm 11 0 247 0 61 [(0, aR 48 0), (2, aI l2)] [] Y (Rt (some (aI o.1)) o.2) nX := by
    intro l2 Y h
    unfold fn_247_J61 at h
    refine w_sg k247 2 (pc' := 63) (ls' := [(0, aR 48 0), (2, aI l2)]) (st' := [aI l2, aR 48 0]) (cs' := []) (fun _ => rfl) al0 ?_
    obtain ⟨_, Y17, hv18, h⟩ := bd_some h
    refine w_cV0 k247 (sn_199 _ _ _ hv18) rfl (st := []) rfl ?_ (fun _ _ q => q.elim)
    refine w_sg k247 2 (pc' := 68) (ls' := [(0, aR 48 0), (2, aI l2), (3, aI (nI 0))]) (st' := []) (cs' := []) (fun _ => rfl) al0 ?_
    refine w_sg k247 2 (pc' := 71) (ls' := [(0, aR 48 0), (2, aI l2), (3, aI (nI 0)), (4, aI (nI 0))]) (st' := []) (cs' := []) (fun _ => rfl) al0 ?_
    refine w_ls [(0, aR 48 0), (3, aI (nI 0)), (4, aI (nI 0))] (lq_c rfl (lq_c rfl (lq_c rfl lq_n))) ?_
    exact L71_0 _ _ _ _ h
  have J20_0 : ∀ (l1 : Int32) (l2 : Int32) (t0 : Int32) (Y : Sm), fn_247_J20 l1 l2 t0 Y = some o → Wm 11 0 247 0 20 [(0, aR 48 0), (1, aI l1), (2, aI l2)] [aI t0, aR 48 0] Y (Rt (some (aI o.1)) o.2) nX := by
    intro l1 l2 t0 Y h
    unfold fn_247_J20 at h
    obtain ⟨v6, Y4, hv5, h⟩ := bd_some h
    refine w_cV1 k247 (sn_164 _ _ _ hv5) rfl (st := []) rfl ?_ (fun _ _ q => q.elim)
    refine w_if_ne k247 rfl (fun c => ?_) (fun c => ?_)
    · replace h := if_f c h
      refine w_sg k247 2 (pc' := 30) (ls' := [(0, aR 48 0), (1, aI l1), (2, aI l2)]) (st' := [aI l1, aR 48 0]) (cs' := []) (fun _ => rfl) al0 ?_
      obtain ⟨_, Y7, hv8, h⟩ := bd_some h
      refine w_cV0 k247 (sn_199 _ _ _ hv8) rfl (st := []) rfl ?_ (fun _ _ q => q.elim)
      refine w_sg k247 2 (pc' := 35) (ls' := [(0, aR 48 0), (1, aI l1), (2, aI l2), (3, aI (nI 0))]) (st' := []) (cs' := []) (fun _ => rfl) al0 ?_
      obtain ⟨e35, hl33, hx34⟩ := exd_some h
      refine w_ls [(0, aR 48 0), (2, aI l2), (3, aI (nI 0))] (lq_c rfl (lq_c rfl (lq_c rfl lq_n))) ?_
      refine L35_0 _ _ _ _ e35 hl33 (fun s9 hs9 => ?_) (fun r9 hr9 => ?_)
      · subst hs9
        replace h : fn_247_J61 l2 s9 = some o := hx34
        refine w_ls [(0, aR 48 0), (2, aI l2)] (lq_c rfl (lq_c rfl lq_n)) ?_
        exact J61_0 _ _ h
      · subst hr9
        exact hx34
    · replace h := if_t c h
      refine w_sg k247 1 (pc' := 27) (ls' := [(0, aR 48 0), (1, aI l1), (2, aI l2)]) (st' := [aI (nI 0)]) (cs' := []) (fun _ => rfl) al0 ?_
      obtain rfl := Option.some.inj h
      exact w_ireturn k247 ⟨rfl, rfl⟩
  have J19_0 : ∀ (l1 : Int32) (l2 : Int32) (Y : Sm), fn_247_J19 l1 l2 Y = some o → Wm 11 0 247 0 19 [(0, aR 48 0), (1, aI l1), (2, aI l2)] [aR 48 0] Y (Rt (some (aI o.1)) o.2) nX := by
    intro l1 l2 Y h
    unfold fn_247_J19 at h
    refine w_sg k247 1 (pc' := 20) (ls' := [(0, aR 48 0), (1, aI l1), (2, aI l2)]) (st' := [aI (nI 0), aR 48 0]) (cs' := []) (fun _ => rfl) al0 ?_
    refine w_ls [(0, aR 48 0), (1, aI l1), (2, aI l2)] (lq_c rfl (lq_c rfl (lq_c rfl lq_n))) ?_
    exact J20_0 _ _ _ _ h
  refine w_sg k247 2 (pc' := 2) (ls' := [(0, aR 48 0), (1, aI a1), (2, aI a2)]) (st' := [aI a1, aR 48 0]) (cs' := []) (fun _ => rfl) al0 ?_
  obtain ⟨v3, Y1, hv2, h⟩ := bd_some h
  refine w_cS1 k247 (sn_222 _ _ _ hv2) rfl (st := [aR 48 0]) rfl ?_ (fun _ _ q => q.elim)
  refine w_if_eq k247 rfl (fun c => ?_) (fun c => ?_)
  · replace h := if_t c h
    refine w_ls [(0, aR 48 0), (1, aI a1), (2, aI a2)] (lq_c rfl (lq_c rfl (lq_c rfl lq_n))) ?_
    exact J19_0 _ _ _ h
  · replace h := if_f c h
    refine w_sg k247 1 (pc' := 9) (ls' := [(0, aR 48 0), (1, aI a1), (2, aI a2)]) (st' := [aI a2, aR 48 0]) (cs' := []) (fun _ => rfl) al0 ?_
    obtain ⟨v38, Y36, hv37, h⟩ := bd_some h
    refine w_cS1 k247 (sn_222 _ _ _ hv37) rfl (st := [aR 48 0]) rfl ?_ (fun _ _ q => q.elim)
    refine w_if_eq k247 rfl (fun c => ?_) (fun c => ?_)
    · replace h := if_t c h
      refine w_ls [(0, aR 48 0), (1, aI a1), (2, aI a2)] (lq_c rfl (lq_c rfl (lq_c rfl lq_n))) ?_
      exact J19_0 _ _ _ h
    · replace h := if_f c h
      refine w_sg k247 2 (pc' := 20) (ls' := [(0, aR 48 0), (1, aI a1), (2, aI a2)]) (st' := [aI (nI 1), aR 48 0]) (cs' := []) (fun _ => rfl) al0 ?_
      refine w_ls [(0, aR 48 0), (1, aI a1), (2, aI a2)] (lq_c rfl (lq_c rfl (lq_c rfl lq_n))) ?_
      exact J20_0 _ _ _ _ h
set_option maxRecDepth 20000 in
set_option maxHeartbeats 4000000 in
/-- BallotBusModel.isDecisive -/
theorem sn_248 (a1 : Int32) {Y : Sm} (v : Int32) (Z : Sm) (h : fn_248 a1 Y = some (v, Z)) : Mt 11 0 248 [aR 48 0, aI a1] Y (Rt (some (aI v)) Z) nX := by
  refine Mt_of [(0, aR 48 0), (1, aI a1)] ?_
  generalize ho : (v, Z) = o at h
  have hv9 : v = o.1 := congrArg Prod.fst ho
  have hZ9 : Z = o.2 := congrArg Prod.snd ho
  clear ho
  subst hv9 hZ9
  unfold fn_248 at h
  have L34_0 : ∀ (l1 : Int32) (n : Nat) (l2 : Int32) (Y : Sm) (e15 : (Sm) ⊕ (Int32 × Sm)), lp (fun s => fn_248_L34 l1 s.1 s.2) n (l2, Y) = some e15 → (∀ s9 : (Sm), e15 = .inl s9 → Wm 11 0 248 0 60 [(0, aR 48 0), (1, aI l1)] [] s9 (Rt (some (aI o.1)) o.2) nX) → (∀ r, e15 = .inr r → r = o) → Wm 11 0 248 0 34 [(0, aR 48 0), (1, aI l1), (2, aI l2)] [] Y (Rt (some (aI o.1)) o.2) nX := by
    intro l1 n
    induction n with
    | zero => intro l2 Y e15 h; cases h
    | succ n ih14 =>
      intro l2 Y e15 h kE16 kR17
      obtain ⟨q12, h, hn13⟩ := lp_succ h
      replace h : fn_248_L34 l1 l2 Y = some q12 := h
      unfold fn_248_L34 at h
      refine w_sg k248 3 (pc' := 39) (ls' := [(0, aR 48 0), (1, aI l1), (2, aI l2)]) (st' := [aI (gI Y.1 48 0 1), aI l2]) (cs' := []) (fun _ => rfl) al0 ?_
      refine w_icmp_ge k248 rfl (fun c => ?_) (fun c => ?_)
      · replace h := if_t c h
        refine w_ls [(0, aR 48 0), (1, aI l1)] (lq_c rfl (lq_c rfl lq_n)) ?_
        obtain rfl := Option.some.inj h
        obtain rfl := lpn_r hn13
        exact kE16 (Y) rfl
      · replace h := if_f c h
        obtain ⟨hc18, h⟩ := ck_some h
        refine w_sw k248 8 (Z := (sI Y 59 0 (ix l2) (gI Y.1 58 0 (ix l2)))) (pc' := 54) (ls' := [(0, aR 48 0), (1, aI l1), (2, aI l2)]) (st' := []) (cs' := [vp_in l2 5, vp_in l2 5, allw 59 0]) (fun _ => rfl) rfl (al2 (vin hc18) (al2 (vin hc18) (al1 rfl))) ?_
        replace h := wr_some h
        generalize (sI Y 59 0 (ix l2) (gI Y.1 58 0 (ix l2))) = Y19 at h ⊢
        refine w_sg k248 1 (pc' := 57) (ls' := [(0, aR 48 0), (1, aI l1), (2, aI (l2 + (nI 1)))]) (st' := []) (cs' := []) (fun _ => rfl) al0 ?_
        refine w_sg k248 1 (pc' := 34) (ls' := [(0, aR 48 0), (1, aI l1), (2, aI (l2 + (nI 1)))]) (st' := []) (cs' := []) (fun _ => rfl) al0 ?_
        refine w_ls [(0, aR 48 0), (1, aI l1), (2, aI (l2 + (nI 1)))] (lq_c rfl (lq_c rfl (lq_c rfl lq_n))) ?_
        obtain rfl := Option.some.inj h
        exact ih14 _ _ _ (lpn_l hn13) kE16 kR17
  have L82_0 : ∀ (n : Nat) (l2 : Int32) (Y : Sm), lp (fun s => fn_248_L82 s.1 s.2) n (l2, Y) = some o → Wm 11 0 248 0 82 [(0, aR 48 0), (2, aI l2)] [] Y (Rt (some (aI o.1)) o.2) nX := by
    intro n
    induction n with
    | zero => intro l2 Y h; cases h
    | succ n ih26 =>
      intro l2 Y h
      obtain ⟨q24, h, hn25⟩ := lp_succ h
      replace h : fn_248_L82 l2 Y = some q24 := h
      unfold fn_248_L82 at h
      refine w_sg k248 3 (pc' := 87) (ls' := [(0, aR 48 0), (2, aI l2)]) (st' := [aI (gI Y.1 48 0 1), aI l2]) (cs' := []) (fun _ => rfl) al0 ?_
      refine w_icmp_ge k248 rfl (fun c => ?_) (fun c => ?_)
      · replace h := if_t c h
        refine w_sg k248 1 (pc' := 114) (ls' := [(0, aR 48 0), (2, aI l2)]) (st' := [aI (nI 0)]) (cs' := []) (fun _ => rfl) al0 ?_
        obtain rfl := Option.some.inj h
        obtain rfl := lpn_r hn25
        exact w_zreturn k248 (Or.inl rfl) ⟨rfl, rfl⟩
      · replace h := if_f c h
        obtain ⟨hc27, h⟩ := ck_some h
        refine w_sg k248 8 (pc' := 102) (ls' := [(0, aR 48 0), (2, aI l2)]) (st' := [aI (gI Y.1 59 0 (ix l2)), aI (gI Y.1 58 0 (ix l2))]) (cs' := [vp_in l2 5, vp_in l2 5]) (fun _ => rfl) (al2 (vin hc27) (al1 (vin hc27))) ?_
        refine w_icmp_eq k248 rfl (fun c => ?_) (fun c => ?_)
        · replace h := if_t c h
          refine w_sg k248 1 (pc' := 110) (ls' := [(0, aR 48 0), (2, aI (l2 + (nI 1)))]) (st' := []) (cs' := []) (fun _ => rfl) al0 ?_
          refine w_sg k248 1 (pc' := 82) (ls' := [(0, aR 48 0), (2, aI (l2 + (nI 1)))]) (st' := []) (cs' := []) (fun _ => rfl) al0 ?_
          refine w_ls [(0, aR 48 0), (2, aI (l2 + (nI 1)))] (lq_c rfl (lq_c rfl lq_n)) ?_
          obtain rfl := Option.some.inj h
          exact ih26 _ _ (lpn_l hn25)
        · replace h := if_f c h
          refine w_sg k248 1 (pc' := 106) (ls' := [(0, aR 48 0), (2, aI l2)]) (st' := [aI (nI 1)]) (cs' := []) (fun _ => rfl) al0 ?_
          obtain rfl := Option.some.inj h
          obtain rfl := lpn_r hn25
          exact w_zreturn k248 (Or.inr rfl) ⟨rfl, rfl⟩
  have J60_0 : ∀ (l1 : Int32) (Y : Sm), fn_248_J60 l1 Y = some o → Wm 11 0 248 0 60 [(0, aR 48 0), (1, aI l1)] [] Y (Rt (some (aI o.1)) o.2) nX := by
    intro l1 Y h
    unfold fn_248_J60 at h
    refine w_sw k248 3 (Z := (sI Y 48 0 19 l1)) (pc' := 65) (ls' := [(0, aR 48 0), (1, aI l1)]) (st' := []) (cs' := [allw 48 0]) (fun _ => rfl) rfl (al1 rfl) ?_
    replace h := wr_some h
    generalize (sI Y 48 0 19 l1) = Y20 at h ⊢
    refine w_sg k248 5 (pc' := 72) (ls' := [(0, aR 48 0), (1, aI l1)]) (st' := [aI (gI Y20.1 52 0 1), aR 48 0]) (cs' := [vp_in (nI 1) 718]) (fun _ => rfl) (al1 (vin rfl)) ?_
    obtain ⟨_, Y21, hv22, h⟩ := bd_some h
    refine w_cV0 k248 (sn_199 _ _ _ hv22) rfl (st := []) rfl ?_ (fun _ _ q => q.elim)
    refine w_sw k248 3 (Z := (sI Y21 48 0 19 (-1 : Int32))) (pc' := 80) (ls' := [(0, aR 48 0), (1, aI l1)]) (st' := []) (cs' := [allw 48 0]) (fun _ => rfl) rfl (al1 rfl) ?_
    replace h := wr_some h
    generalize (sI Y21 48 0 19 (-1 : Int32)) = Y23 at h ⊢
    refine w_sg k248 2 (pc' := 82) (ls' := [(0, aR 48 0), (1, aI l1), (2, aI (nI 0))]) (st' := []) (cs' := []) (fun _ => rfl) al0 ?_
    refine w_ls [(0, aR 48 0), (2, aI (nI 0))] (lq_c rfl (lq_c rfl lq_n)) ?_
    exact L82_0 _ _ _ h
  refine w_sg k248 3 (pc' := 3) (ls' := [(0, aR 48 0), (1, aI a1)]) (st' := [aI a1, aR 48 0, aR 48 0]) (cs' := []) (fun _ => rfl) al0 ?_
  obtain ⟨v3, Y1, hv2, h⟩ := bd_some h
  refine w_cV1 k248 (sn_208 _ _ _ hv2) rfl (st := [aR 48 0]) rfl ?_ (fun _ _ q => q.elim)
  obtain ⟨v6, Y4, hv5, h⟩ := bd_some h
  refine w_cV1 k248 (sn_164 _ _ _ hv5) rfl (st := []) rfl ?_ (fun _ _ q => q.elim)
  refine w_if_eq k248 rfl (fun c => ?_) (fun c => ?_)
  · replace h := if_t c h
    refine w_sg k248 1 (pc' := 21) (ls' := [(0, aR 48 0), (1, aI a1)]) (st' := [aI (nI 0)]) (cs' := []) (fun _ => rfl) al0 ?_
    obtain rfl := Option.some.inj h
    exact w_zreturn k248 (Or.inl rfl) ⟨rfl, rfl⟩
  · replace h := if_f c h
    refine w_sg k248 2 (pc' := 14) (ls' := [(0, aR 48 0), (1, aI a1)]) (st' := [aI a1, aR 48 0]) (cs' := []) (fun _ => rfl) al0 ?_
    obtain ⟨v9, Y7, hv8, h⟩ := bd_some h
    refine w_cV1 k248 (sn_189 _ _ _ hv8) rfl (st := []) rfl ?_ (fun _ _ q => q.elim)
    refine w_if_ne k248 rfl (fun c => ?_) (fun c => ?_)
    · replace h := if_f c h
      refine w_sg k248 5 (pc' := 29) (ls' := [(0, aR 48 0), (1, aI a1)]) (st' := [aI (gI Y7.1 52 0 1), aR 48 0]) (cs' := [vp_in (nI 1) 718]) (fun _ => rfl) (al1 (vin rfl)) ?_
      obtain ⟨_, Y10, hv11, h⟩ := bd_some h
      refine w_cV0 k248 (sn_199 _ _ _ hv11) rfl (st := []) rfl ?_ (fun _ _ q => q.elim)
      refine w_sg k248 2 (pc' := 34) (ls' := [(0, aR 48 0), (1, aI a1), (2, aI (nI 0))]) (st' := []) (cs' := []) (fun _ => rfl) al0 ?_
      obtain ⟨e30, hl28, hx29⟩ := exd_some h
      refine w_ls [(0, aR 48 0), (1, aI a1), (2, aI (nI 0))] (lq_c rfl (lq_c rfl (lq_c rfl lq_n))) ?_
      refine L34_0 _ _ _ _ e30 hl28 (fun s9 hs9 => ?_) (fun r9 hr9 => ?_)
      · subst hs9
        replace h : fn_248_J60 a1 s9 = some o := hx29
        refine w_ls [(0, aR 48 0), (1, aI a1)] (lq_c rfl (lq_c rfl lq_n)) ?_
        exact J60_0 _ _ h
      · subst hr9
        exact hx29
    · replace h := if_t c h
      refine w_sg k248 1 (pc' := 21) (ls' := [(0, aR 48 0), (1, aI a1)]) (st' := [aI (nI 0)]) (cs' := []) (fun _ => rfl) al0 ?_
      obtain rfl := Option.some.inj h
      exact w_zreturn k248 (Or.inl rfl) ⟨rfl, rfl⟩
set_option maxRecDepth 20000 in
set_option maxHeartbeats 4000000 in
/-- BallotBusModel.pairsApart -/
theorem sn_249 (a1 : Int32) {Y : Sm} (v : Int32) (Z : Sm) (h : fn_249 a1 Y = some (v, Z)) : Mt 6 0 249 [aR 48 0, aI a1] Y (Rt (some (aI v)) Z) nX := by
  refine Mt_of [(0, aR 48 0), (1, aI a1)] ?_
  generalize ho : (v, Z) = o at h
  have hv9 : v = o.1 := congrArg Prod.fst ho
  have hZ9 : Z = o.2 := congrArg Prod.snd ho
  clear ho
  subst hv9 hZ9
  unfold fn_249 at h
  have L4_0 : ∀ (l1 : Int32) (n : Nat) (l2 : Int32) (l3 : Int32) (Y : Sm), lp (fun s => fn_249_L4 l1 s.1 s.2.1 s.2.2) n (l2, l3, Y) = some o → Wm 6 0 249 0 4 [(0, aR 48 0), (1, aI l1), (2, aI l2), (3, aI l3)] [] Y (Rt (some (aI o.1)) o.2) nX := by
    intro l1 n
    induction n with
    | zero => intro l2 l3 Y h; cases h
    | succ n ih3 =>
      intro l2 l3 Y h
      obtain ⟨q1, h, hn2⟩ := lp_succ h
      replace h : fn_249_L4 l1 l2 l3 Y = some q1 := h
      unfold fn_249_L4 at h
      have L17_0 : ∀ (l3 : Int32) (n : Nat) (l2 : Int32) (l4 : Int32) (Y : Sm), lp (fun s => fn_249_L17_d1 l1 l3 s.1 s.2.1 s.2.2) n (l2, l4, Y) = some q1 → Wm 6 0 249 0 17 [(0, aR 48 0), (1, aI l1), (2, aI l2), (3, aI l3), (4, aI l4)] [] Y (Rt (some (aI o.1)) o.2) nX := by
        intro l3 n
        induction n with
        | zero => intro l2 l4 Y h; cases h
        | succ n ih6 =>
          intro l2 l4 Y h
          obtain ⟨q4, h, hn5⟩ := lp_succ h
          replace h : fn_249_L17_d1 l1 l3 l2 l4 Y = some q4 := h
          unfold fn_249_L17_d1 at h
          refine w_sg k249 3 (pc' := 23) (ls' := [(0, aR 48 0), (1, aI l1), (2, aI l2), (3, aI l3), (4, aI l4)]) (st' := [aI (gI Y.1 48 0 1), aI l4]) (cs' := []) (fun _ => rfl) al0 ?_
          refine w_icmp_ge k249 rfl (fun c => ?_) (fun c => ?_)
          · replace h := if_t c h
            refine w_sg k249 1 (pc' := 65) (ls' := [(0, aR 48 0), (1, aI l1), (2, aI l2), (3, aI (l3 + (nI 1))), (4, aI l4)]) (st' := []) (cs' := []) (fun _ => rfl) al0 ?_
            refine w_sg k249 1 (pc' := 4) (ls' := [(0, aR 48 0), (1, aI l1), (2, aI l2), (3, aI (l3 + (nI 1))), (4, aI l4)]) (st' := []) (cs' := []) (fun _ => rfl) al0 ?_
            refine w_ls [(0, aR 48 0), (1, aI l1), (2, aI l2), (3, aI (l3 + (nI 1)))] (lq_c rfl (lq_c rfl (lq_c rfl (lq_c rfl lq_n)))) ?_
            obtain rfl := Option.some.inj h
            obtain rfl := lpn_r hn5
            exact ih3 _ _ _ (lpn_l hn2)
          · replace h := if_f c h
            obtain ⟨hc7, h⟩ := ck_some h
            refine w_sg k249 6 (pc' := 34) (ls' := [(0, aR 48 0), (1, aI l1), (2, aI l2), (3, aI l3), (4, aI l4)]) (st' := [aI (gI Y.1 58 0 (ix l3)), aI l1, aR 48 0]) (cs' := [vp_in l3 5]) (fun _ => rfl) (al1 (vin hc7)) ?_
            obtain ⟨v10, Y8, hv9, h⟩ := bd_some h
            refine w_cV1 k249 (sn_192 _ _ _ _ hv9) rfl (st := []) rfl ?_ (fun _ _ q => q.elim)
            obtain ⟨hc11, h⟩ := ck_some h
            refine w_sg k249 6 (pc' := 46) (ls' := [(0, aR 48 0), (1, aI l1), (2, aI l2), (3, aI l3), (4, aI l4)]) (st' := [aI (gI Y8.1 58 0 (ix l4)), aI l1, aR 48 0, aI v10]) (cs' := [vp_in l4 5]) (fun _ => rfl) (al1 (vin hc11)) ?_
            obtain ⟨v14, Y12, hv13, h⟩ := bd_some h
            refine w_cV1 k249 (sn_192 _ _ _ _ hv13) rfl (st := [aI v10]) rfl ?_ (fun _ _ q => q.elim)
            refine w_icmp_le k249 rfl (fun c => ?_) (fun c => ?_)
            · replace h := if_t c h
              refine w_sg k249 1 (pc' := 59) (ls' := [(0, aR 48 0), (1, aI l1), (2, aI l2), (3, aI l3), (4, aI (l4 + (nI 1)))]) (st' := []) (cs' := []) (fun _ => rfl) al0 ?_
              refine w_sg k249 1 (pc' := 17) (ls' := [(0, aR 48 0), (1, aI l1), (2, aI l2), (3, aI l3), (4, aI (l4 + (nI 1)))]) (st' := []) (cs' := []) (fun _ => rfl) al0 ?_
              refine w_ls [(0, aR 48 0), (1, aI l1), (2, aI l2), (3, aI l3), (4, aI (l4 + (nI 1)))] (lq_c rfl (lq_c rfl (lq_c rfl (lq_c rfl (lq_c rfl lq_n))))) ?_
              obtain rfl := Option.some.inj h
              exact ih6 _ _ _ (lpn_l hn5)
            · replace h := if_f c h
              refine w_sg k249 4 (pc' := 56) (ls' := [(0, aR 48 0), (1, aI l1), (2, aI (l2 + (nI 1))), (3, aI l3), (4, aI l4)]) (st' := []) (cs' := []) (fun _ => rfl) al0 ?_
              refine w_sg k249 1 (pc' := 59) (ls' := [(0, aR 48 0), (1, aI l1), (2, aI (l2 + (nI 1))), (3, aI l3), (4, aI (l4 + (nI 1)))]) (st' := []) (cs' := []) (fun _ => rfl) al0 ?_
              refine w_sg k249 1 (pc' := 17) (ls' := [(0, aR 48 0), (1, aI l1), (2, aI (l2 + (nI 1))), (3, aI l3), (4, aI (l4 + (nI 1)))]) (st' := []) (cs' := []) (fun _ => rfl) al0 ?_
              refine w_ls [(0, aR 48 0), (1, aI l1), (2, aI (l2 + (nI 1))), (3, aI l3), (4, aI (l4 + (nI 1)))] (lq_c rfl (lq_c rfl (lq_c rfl (lq_c rfl (lq_c rfl lq_n))))) ?_
              obtain rfl := Option.some.inj h
              exact ih6 _ _ _ (lpn_l hn5)
      refine w_sg k249 3 (pc' := 9) (ls' := [(0, aR 48 0), (1, aI l1), (2, aI l2), (3, aI l3)]) (st' := [aI (gI Y.1 48 0 1), aI l3]) (cs' := []) (fun _ => rfl) al0 ?_
      refine w_icmp_ge k249 rfl (fun c => ?_) (fun c => ?_)
      · replace h := if_t c h
        refine w_sg k249 1 (pc' := 69) (ls' := [(0, aR 48 0), (1, aI l1), (2, aI l2), (3, aI l3)]) (st' := [aI l2]) (cs' := []) (fun _ => rfl) al0 ?_
        obtain rfl := Option.some.inj h
        obtain rfl := lpn_r hn2
        exact w_ireturn k249 ⟨rfl, rfl⟩
      · replace h := if_f c h
        refine w_sg k249 4 (pc' := 17) (ls' := [(0, aR 48 0), (1, aI l1), (2, aI l2), (3, aI l3), (4, aI (l3 + (nI 1)))]) (st' := []) (cs' := []) (fun _ => rfl) al0 ?_
        refine w_ls [(0, aR 48 0), (1, aI l1), (2, aI l2), (3, aI l3), (4, aI (l3 + (nI 1)))] (lq_c rfl (lq_c rfl (lq_c rfl (lq_c rfl (lq_c rfl lq_n))))) ?_
        exact L17_0 _ _ _ _ _ h
  refine w_sg k249 2 (pc' := 2) (ls' := [(0, aR 48 0), (1, aI a1), (2, aI (nI 0))]) (st' := []) (cs' := []) (fun _ => rfl) al0 ?_
  refine w_sg k249 2 (pc' := 4) (ls' := [(0, aR 48 0), (1, aI a1), (2, aI (nI 0)), (3, aI (nI 0))]) (st' := []) (cs' := []) (fun _ => rfl) al0 ?_
  refine w_ls [(0, aR 48 0), (1, aI a1), (2, aI (nI 0)), (3, aI (nI 0))] (lq_c rfl (lq_c rfl (lq_c rfl (lq_c rfl lq_n)))) ?_
  exact L4_0 _ _ _ _ _ h
set_option maxRecDepth 20000 in
set_option maxHeartbeats 4000000 in
/-- BallotBusModel.distance -/
theorem sn_250 (a1 : Int32) {Y : Sm} (v : Int32) (Z : Sm) (h : fn_250 a1 Y = some (v, Z)) : Mt 7 0 250 [aR 48 0, aI a1] Y (Rt (some (aI v)) Z) nX := by
  refine Mt_of [(0, aR 48 0), (1, aI a1)] ?_
  generalize ho : (v, Z) = o at h
  have hv9 : v = o.1 := congrArg Prod.fst ho
  have hZ9 : Z = o.2 := congrArg Prod.snd ho
  clear ho
  subst hv9 hZ9
  unfold fn_250 at h
  have L16_0 : ∀ (l1 : Int32) (n : Nat) (l2 : Int32) (Y : Sm), lp (fun s => fn_250_L16 l1 s.1 s.2) n (l2, Y) = some o → Wm 7 0 250 0 16 [(0, aR 48 0), (1, aI l1), (2, aI l2)] [] Y (Rt (some (aI o.1)) o.2) nX := by
    intro l1 n
    induction n with
    | zero => intro l2 Y h; cases h
    | succ n ih9 =>
      intro l2 Y h
      obtain ⟨q7, h, hn8⟩ := lp_succ h
      replace h : fn_250_L16 l1 l2 Y = some q7 := h
      unfold fn_250_L16 at h
      refine w_sg k250 3 (pc' := 21) (ls' := [(0, aR 48 0), (1, aI l1), (2, aI l2)]) (st' := [aI (gI Y.1 48 0 1), aI l2]) (cs' := []) (fun _ => rfl) al0 ?_
      refine w_icmp_ge k250 rfl (fun c => ?_) (fun c => ?_)
      · replace h := if_t c h
        refine w_sg k250 2 (pc' := 47) (ls' := [(0, aR 48 0), (1, aI l1), (2, aI l2)]) (st' := [aI l1, aR 48 0]) (cs' := []) (fun _ => rfl) al0 ?_
        obtain ⟨v12, Y10, hv11, h⟩ := bd_some h
        refine w_cV1 k250 (sn_249 _ _ _ hv11) rfl (st := []) rfl ?_ (fun _ _ q => q.elim)
        obtain rfl := Option.some.inj h
        obtain rfl := lpn_r hn8
        exact w_ireturn k250 ⟨rfl, rfl⟩
      · replace h := if_f c h
        refine w_sg k250 8 (pc' := 37) (ls' := [(0, aR 48 0), (1, aI l1), (2, aI l2)]) (st' := [aI ((nI 10) + l2), aR 52 0, aI l2, aR 58 0]) (cs' := []) (fun _ => rfl) al0 ?_
        obtain ⟨hc13, h⟩ := ck_some h
        obtain ⟨hc14, h⟩ := ck_some h
        refine w_sw k250 2 (Z := (sI Y 58 0 (ix l2) (gI Y.1 52 0 (ix ((nI 10) + l2))))) (pc' := 39) (ls' := [(0, aR 48 0), (1, aI l1), (2, aI l2)]) (st' := []) (cs' := [vp_in ((nI 10) + l2) 718, vp_in l2 5, allw 58 0]) (fun _ => rfl) rfl (al2 (vin hc13) (al2 (vin hc14) (al1 rfl))) ?_
        replace h := wr_some h
        generalize (sI Y 58 0 (ix l2) (gI Y.1 52 0 (ix ((nI 10) + l2)))) = Y15 at h ⊢
        refine w_sg k250 1 (pc' := 42) (ls' := [(0, aR 48 0), (1, aI l1), (2, aI (l2 + (nI 1)))]) (st' := []) (cs' := []) (fun _ => rfl) al0 ?_
        refine w_sg k250 1 (pc' := 16) (ls' := [(0, aR 48 0), (1, aI l1), (2, aI (l2 + (nI 1)))]) (st' := []) (cs' := []) (fun _ => rfl) al0 ?_
        refine w_ls [(0, aR 48 0), (1, aI l1), (2, aI (l2 + (nI 1)))] (lq_c rfl (lq_c rfl (lq_c rfl lq_n))) ?_
        obtain rfl := Option.some.inj h
        exact ih9 _ _ (lpn_l hn8)
  refine w_sg k250 3 (pc' := 3) (ls' := [(0, aR 48 0), (1, aI a1)]) (st' := [aI a1, aR 48 0, aR 48 0]) (cs' := []) (fun _ => rfl) al0 ?_
  obtain ⟨v3, Y1, hv2, h⟩ := bd_some h
  refine w_cV1 k250 (sn_208 _ _ _ hv2) rfl (st := [aR 48 0]) rfl ?_ (fun _ _ q => q.elim)
  obtain ⟨v6, Y4, hv5, h⟩ := bd_some h
  refine w_cV1 k250 (sn_164 _ _ _ hv5) rfl (st := []) rfl ?_ (fun _ _ q => q.elim)
  refine w_if_ne k250 rfl (fun c => ?_) (fun c => ?_)
  · replace h := if_f c h
    refine w_sg k250 2 (pc' := 16) (ls' := [(0, aR 48 0), (1, aI a1), (2, aI (nI 0))]) (st' := []) (cs' := []) (fun _ => rfl) al0 ?_
    refine w_ls [(0, aR 48 0), (1, aI a1), (2, aI (nI 0))] (lq_c rfl (lq_c rfl (lq_c rfl lq_n))) ?_
    exact L16_0 _ _ _ _ h
  · replace h := if_t c h
    refine w_sg k250 1 (pc' := 13) (ls' := [(0, aR 48 0), (1, aI a1)]) (st' := [aI (nI 0)]) (cs' := []) (fun _ => rfl) al0 ?_
    obtain rfl := Option.some.inj h
    exact w_ireturn k250 ⟨rfl, rfl⟩
set_option maxRecDepth 20000 in
set_option maxHeartbeats 4000000 in
/-- BallotBusModel.codes -/
theorem sn_252 {Y : Sm} (v : Int32) (Z : Sm) (h : fn_252 Y = some (v, Z)) : Mt 4 0 252 [aR 48 0] Y (Rt (some (aI v)) Z) nX := by
  refine Mt_of [(0, aR 48 0)] ?_
  generalize ho : (v, Z) = o at h
  have hv9 : v = o.1 := congrArg Prod.fst ho
  have hZ9 : Z = o.2 := congrArg Prod.snd ho
  clear ho
  subst hv9 hZ9
  unfold fn_252 at h
  have L4_0 : ∀ (n : Nat) (l1 : Int32) (l2 : Int32) (Y : Sm), lp (fun s => fn_252_L4 s.1 s.2.1 s.2.2) n (l1, l2, Y) = some o → Wm 4 0 252 0 4 [(0, aR 48 0), (1, aI l1), (2, aI l2)] [] Y (Rt (some (aI o.1)) o.2) nX := by
    intro n
    induction n with
    | zero => intro l1 l2 Y h; cases h
    | succ n ih3 =>
      intro l1 l2 Y h
      obtain ⟨q1, h, hn2⟩ := lp_succ h
      replace h : fn_252_L4 l1 l2 Y = some q1 := h
      unfold fn_252_L4 at h
      refine w_sg k252 3 (pc' := 9) (ls' := [(0, aR 48 0), (1, aI l1), (2, aI l2)]) (st' := [aI (gI Y.1 48 0 1), aI l2]) (cs' := []) (fun _ => rfl) al0 ?_
      refine w_icmp_ge k252 rfl (fun c => ?_) (fun c => ?_)
      · replace h := if_t c h
        refine w_sg k252 1 (pc' := 24) (ls' := [(0, aR 48 0), (1, aI l1), (2, aI l2)]) (st' := [aI l1]) (cs' := []) (fun _ => rfl) al0 ?_
        obtain rfl := Option.some.inj h
        obtain rfl := lpn_r hn2
        exact w_ireturn k252 ⟨rfl, rfl⟩
      · replace h := if_f c h
        refine w_sg k252 4 (pc' := 17) (ls' := [(0, aR 48 0), (1, aI (l1 * (nI 10))), (2, aI l2)]) (st' := []) (cs' := []) (fun _ => rfl) al0 ?_
        refine w_sg k252 1 (pc' := 20) (ls' := [(0, aR 48 0), (1, aI (l1 * (nI 10))), (2, aI (l2 + (nI 1)))]) (st' := []) (cs' := []) (fun _ => rfl) al0 ?_
        refine w_sg k252 1 (pc' := 4) (ls' := [(0, aR 48 0), (1, aI (l1 * (nI 10))), (2, aI (l2 + (nI 1)))]) (st' := []) (cs' := []) (fun _ => rfl) al0 ?_
        refine w_ls [(0, aR 48 0), (1, aI (l1 * (nI 10))), (2, aI (l2 + (nI 1)))] (lq_c rfl (lq_c rfl (lq_c rfl lq_n))) ?_
        obtain rfl := Option.some.inj h
        exact ih3 _ _ _ (lpn_l hn2)
  refine w_sg k252 2 (pc' := 2) (ls' := [(0, aR 48 0), (1, aI (nI 1))]) (st' := []) (cs' := []) (fun _ => rfl) al0 ?_
  refine w_sg k252 2 (pc' := 4) (ls' := [(0, aR 48 0), (1, aI (nI 1)), (2, aI (nI 0))]) (st' := []) (cs' := []) (fun _ => rfl) al0 ?_
  refine w_ls [(0, aR 48 0), (1, aI (nI 1)), (2, aI (nI 0))] (lq_c rfl (lq_c rfl (lq_c rfl lq_n))) ?_
  exact L4_0 _ _ _ _ h
set_option maxRecDepth 20000 in
set_option maxHeartbeats 4000000 in
/-- BallotBusModel.sumApart -/
theorem sn_251 {Y : Sm} (v : Int32) (Z : Sm) (h : fn_251 Y = some (v, Z)) : Mt 7 0 251 [aR 48 0] Y (Rt (some (aI v)) Z) nX := by
  refine Mt_of [(0, aR 48 0)] ?_
  generalize ho : (v, Z) = o at h
  have hv9 : v = o.1 := congrArg Prod.fst ho
  have hZ9 : Z = o.2 := congrArg Prod.snd ho
  clear ho
  subst hv9 hZ9
  unfold fn_251 at h
  have L4_0 : ∀ (n : Nat) (l1 : Int32) (l2 : Int32) (Y : Sm), lp (fun s => fn_251_L4 s.1 s.2.1 s.2.2) n (l1, l2, Y) = some o → Wm 7 0 251 0 4 [(0, aR 48 0), (1, aI l1), (2, aI l2)] [] Y (Rt (some (aI o.1)) o.2) nX := by
    intro n
    induction n with
    | zero => intro l1 l2 Y h; cases h
    | succ n ih3 =>
      intro l1 l2 Y h
      obtain ⟨q1, h, hn2⟩ := lp_succ h
      replace h : fn_251_L4 l1 l2 Y = some q1 := h
      unfold fn_251_L4 at h
      refine w_sg k251 3 (pc' := 9) (ls' := [(0, aR 48 0), (1, aI l1), (2, aI l2)]) (st' := [aI (gI Y.1 48 0 2), aI l2]) (cs' := []) (fun _ => rfl) al0 ?_
      refine w_icmp_ge k251 rfl (fun c => ?_) (fun c => ?_)
      · replace h := if_t c h
        refine w_sg k251 1 (pc' := 42) (ls' := [(0, aR 48 0), (1, aI l1), (2, aI l2)]) (st' := [aI l1]) (cs' := []) (fun _ => rfl) al0 ?_
        obtain rfl := Option.some.inj h
        obtain rfl := lpn_r hn2
        exact w_ireturn k251 ⟨rfl, rfl⟩
      · replace h := if_f c h
        refine w_sg k251 2 (pc' := 14) (ls' := [(0, aR 48 0), (1, aI l1), (2, aI l2)]) (st' := [aI l2, aR 48 0]) (cs' := []) (fun _ => rfl) al0 ?_
        obtain ⟨v6, Y4, hv5, h⟩ := bd_some h
        refine w_cV1 k251 (sn_189 _ _ _ hv5) rfl (st := []) rfl ?_ (fun _ _ q => q.elim)
        refine w_if_eq k251 rfl (fun c => ?_) (fun c => ?_)
        · replace h := if_t c h
          refine w_sg k251 1 (pc' := 38) (ls' := [(0, aR 48 0), (1, aI l1), (2, aI (l2 + (nI 1)))]) (st' := []) (cs' := []) (fun _ => rfl) al0 ?_
          refine w_sg k251 1 (pc' := 4) (ls' := [(0, aR 48 0), (1, aI l1), (2, aI (l2 + (nI 1)))]) (st' := []) (cs' := []) (fun _ => rfl) al0 ?_
          refine w_ls [(0, aR 48 0), (1, aI l1), (2, aI (l2 + (nI 1)))] (lq_c rfl (lq_c rfl (lq_c rfl lq_n))) ?_
          obtain rfl := Option.some.inj h
          exact ih3 _ _ _ (lpn_l hn2)
        · replace h := if_f c h
          obtain ⟨hc7, h⟩ := ck_some h
          refine w_sg k251 7 (pc' := 29) (ls' := [(0, aR 48 0), (1, aI l1), (2, aI l2)]) (st' := [aI l2, aR 48 0, aI (gI Y4.1 49 0 (ix l2)), aI l1]) (cs' := [vp_in l2 8]) (fun _ => rfl) (al1 (vin hc7)) ?_
          obtain ⟨v10, Y8, hv9, h⟩ := bd_some h
          refine w_cV1 k251 (sn_249 _ _ _ hv9) rfl (st := [aI (gI Y4.1 49 0 (ix l2)), aI l1]) rfl ?_ (fun _ _ q => q.elim)
          refine w_sg k251 3 (pc' := 35) (ls' := [(0, aR 48 0), (1, aI (l1 + ((gI Y4.1 49 0 (ix l2)) * v10))), (2, aI l2)]) (st' := []) (cs' := []) (fun _ => rfl) al0 ?_
          refine w_sg k251 1 (pc' := 38) (ls' := [(0, aR 48 0), (1, aI (l1 + ((gI Y4.1 49 0 (ix l2)) * v10))), (2, aI (l2 + (nI 1)))]) (st' := []) (cs' := []) (fun _ => rfl) al0 ?_
          refine w_sg k251 1 (pc' := 4) (ls' := [(0, aR 48 0), (1, aI (l1 + ((gI Y4.1 49 0 (ix l2)) * v10))), (2, aI (l2 + (nI 1)))]) (st' := []) (cs' := []) (fun _ => rfl) al0 ?_
          refine w_ls [(0, aR 48 0), (1, aI (l1 + ((gI Y4.1 49 0 (ix l2)) * v10))), (2, aI (l2 + (nI 1)))] (lq_c rfl (lq_c rfl (lq_c rfl lq_n))) ?_
          obtain rfl := Option.some.inj h
          exact ih3 _ _ _ (lpn_l hn2)
  refine w_sg k251 2 (pc' := 2) (ls' := [(0, aR 48 0), (1, aI (nI 0))]) (st' := []) (cs' := []) (fun _ => rfl) al0 ?_
  refine w_sg k251 2 (pc' := 4) (ls' := [(0, aR 48 0), (1, aI (nI 0)), (2, aI (nI 0))]) (st' := []) (cs' := []) (fun _ => rfl) al0 ?_
  refine w_ls [(0, aR 48 0), (1, aI (nI 0)), (2, aI (nI 0))] (lq_c rfl (lq_c rfl (lq_c rfl lq_n))) ?_
  exact L4_0 _ _ _ _ h
set_option maxRecDepth 20000 in
set_option maxHeartbeats 4000000 in
/-- BallotBusModel.middle -/
theorem sn_253 (a1 : Int32) {Y : Sm} (v : Int32) (Z : Sm) (h : fn_253 a1 Y = some (v, Z)) : Mt 8 0 253 [aR 48 0, aI a1] Y (Rt (some (aI v)) Z) nX := by
  refine Mt_of [(0, aR 48 0), (1, aI a1)] ?_
  generalize ho : (v, Z) = o at h
  have hv9 : v = o.1 := congrArg Prod.fst ho
  have hZ9 : Z = o.2 := congrArg Prod.snd ho
  clear ho
  subst hv9 hZ9
  unfold fn_253 at h
  have L21_0 : ∀ (l1 : Int32) (n : Nat) (l2 : Int32) (l3 : Int32) (l4 : Int32) (Y : Sm) (e10 : (Int32 × Sm) ⊕ (Int32 × Sm)), lp (fun s => fn_253_L21 l1 s.1 s.2.1 s.2.2.1 s.2.2.2) n (l2, l3, l4, Y) = some e10 → (∀ s9 : (Int32 × Sm), e10 = .inl s9 → Wm 8 0 253 0 69 [(0, aR 48 0), (1, aI l1), (2, aI s9.1)] [] s9.2 (Rt (some (aI o.1)) o.2) nX) → (∀ r, e10 = .inr r → r = o) → Wm 8 0 253 0 21 [(0, aR 48 0), (1, aI l1), (2, aI l2), (3, aI l3), (4, aI l4)] [] Y (Rt (some (aI o.1)) o.2) nX := by
    intro l1 n
    induction n with
    | zero => intro l2 l3 l4 Y e10 h; cases h
    | succ n ih9 =>
      intro l2 l3 l4 Y e10 h kE11 kR12
      obtain ⟨q7, h, hn8⟩ := lp_succ h
      replace h : fn_253_L21 l1 l2 l3 l4 Y = some q7 := h
      unfold fn_253_L21 at h
      refine w_sg k253 2 (pc' := 24) (ls' := [(0, aR 48 0), (1, aI l1), (2, aI l2), (3, aI l3), (4, aI l4)]) (st' := [aR 48 0, aI l4]) (cs' := []) (fun _ => rfl) al0 ?_
      obtain ⟨v15, Y13, hv14, h⟩ := bd_some h
      refine w_cV1 k253 (sn_252  _ _ hv14) rfl (st := [aI l4]) rfl ?_ (fun _ _ q => q.elim)
      refine w_icmp_ge k253 rfl (fun c => ?_) (fun c => ?_)
      · replace h := if_t c h
        refine w_ls [(0, aR 48 0), (1, aI l1), (2, aI l2)] (lq_c rfl (lq_c rfl (lq_c rfl lq_n))) ?_
        obtain rfl := Option.some.inj h
        obtain rfl := lpn_r hn8
        exact kE11 (l2, Y13) rfl
      · replace h := if_f c h
        refine w_sg k253 2 (pc' := 33) (ls' := [(0, aR 48 0), (1, aI l1), (2, aI l2), (3, aI l3), (4, aI l4)]) (st' := [aI l4, aR 48 0]) (cs' := []) (fun _ => rfl) al0 ?_
        obtain ⟨v18, Y16, hv17, h⟩ := bd_some h
        refine w_cV1 k253 (sn_214 _ _ _ hv17) rfl (st := []) rfl ?_ (fun _ _ q => q.elim)
        refine w_if_eq k253 rfl (fun c => ?_) (fun c => ?_)
        · replace h := if_t c h
          refine w_sg k253 1 (pc' := 66) (ls' := [(0, aR 48 0), (1, aI l1), (2, aI l2), (3, aI l3), (4, aI (l4 + (nI 1)))]) (st' := []) (cs' := []) (fun _ => rfl) al0 ?_
          refine w_sg k253 1 (pc' := 21) (ls' := [(0, aR 48 0), (1, aI l1), (2, aI l2), (3, aI l3), (4, aI (l4 + (nI 1)))]) (st' := []) (cs' := []) (fun _ => rfl) al0 ?_
          refine w_ls [(0, aR 48 0), (1, aI l1), (2, aI l2), (3, aI l3), (4, aI (l4 + (nI 1)))] (lq_c rfl (lq_c rfl (lq_c rfl (lq_c rfl (lq_c rfl lq_n))))) ?_
          obtain rfl := Option.some.inj h
          exact ih9 _ _ _ _ _ (lpn_l hn8) kE11 kR12
        · replace h := if_f c h
          refine w_sg k253 2 (pc' := 41) (ls' := [(0, aR 48 0), (1, aI l1), (2, aI l2), (3, aI l3), (4, aI l4)]) (st' := [aI (-1 : Int32), aI l2]) (cs' := []) (fun _ => rfl) al0 ?_
          refine w_icmp_eq k253 rfl (fun c => ?_) (fun c => ?_)
          · replace h := if_t c h
            refine w_sg k253 2 (pc' := 58) (ls' := [(0, aR 48 0), (1, aI l1), (2, aI l4), (3, aI l3), (4, aI l4)]) (st' := []) (cs' := []) (fun _ => rfl) al0 ?_
            refine w_sg k253 1 (pc' := 59) (ls' := [(0, aR 48 0), (1, aI l1), (2, aI l4), (3, aI l3), (4, aI l4)]) (st' := [aR 48 0]) (cs' := []) (fun _ => rfl) al0 ?_
            obtain ⟨v21, Y19, hv20, h⟩ := bd_some h
            refine w_cV1 k253 (sn_251  _ _ hv20) rfl (st := []) rfl ?_ (fun _ _ q => q.elim)
            refine w_sg k253 1 (pc' := 63) (ls' := [(0, aR 48 0), (1, aI l1), (2, aI l4), (3, aI v21), (4, aI l4)]) (st' := []) (cs' := []) (fun _ => rfl) al0 ?_
            refine w_sg k253 1 (pc' := 66) (ls' := [(0, aR 48 0), (1, aI l1), (2, aI l4), (3, aI v21), (4, aI (l4 + (nI 1)))]) (st' := []) (cs' := []) (fun _ => rfl) al0 ?_
            refine w_sg k253 1 (pc' := 21) (ls' := [(0, aR 48 0), (1, aI l1), (2, aI l4), (3, aI v21), (4, aI (l4 + (nI 1)))]) (st' := []) (cs' := []) (fun _ => rfl) al0 ?_
            refine w_ls [(0, aR 48 0), (1, aI l1), (2, aI l4), (3, aI v21), (4, aI (l4 + (nI 1)))] (lq_c rfl (lq_c rfl (lq_c rfl (lq_c rfl (lq_c rfl lq_n))))) ?_
            obtain rfl := Option.some.inj h
            exact ih9 _ _ _ _ _ (lpn_l hn8) kE11 kR12
          · replace h := if_f c h
            refine w_sg k253 1 (pc' := 45) (ls' := [(0, aR 48 0), (1, aI l1), (2, aI l2), (3, aI l3), (4, aI l4)]) (st' := [aR 48 0]) (cs' := []) (fun _ => rfl) al0 ?_
            obtain ⟨v24, Y22, hv23, h⟩ := bd_some h
            refine w_cV1 k253 (sn_251  _ _ hv23) rfl (st := []) rfl ?_ (fun _ _ q => q.elim)
            refine w_sg k253 1 (pc' := 49) (ls' := [(0, aR 48 0), (1, aI l1), (2, aI l2), (3, aI l3), (4, aI l4)]) (st' := [aI l3, aI v24]) (cs' := []) (fun _ => rfl) al0 ?_
            refine w_icmp_lt k253 rfl (fun c => ?_) (fun c => ?_)
            · replace h := if_t c h
              refine w_sg k253 2 (pc' := 58) (ls' := [(0, aR 48 0), (1, aI l1), (2, aI l4), (3, aI l3), (4, aI l4)]) (st' := []) (cs' := []) (fun _ => rfl) al0 ?_
              refine w_sg k253 1 (pc' := 59) (ls' := [(0, aR 48 0), (1, aI l1), (2, aI l4), (3, aI l3), (4, aI l4)]) (st' := [aR 48 0]) (cs' := []) (fun _ => rfl) al0 ?_
              obtain ⟨v27, Y25, hv26, h⟩ := bd_some h
              refine w_cV1 k253 (sn_251  _ _ hv26) rfl (st := []) rfl ?_ (fun _ _ q => q.elim)
              refine w_sg k253 1 (pc' := 63) (ls' := [(0, aR 48 0), (1, aI l1), (2, aI l4), (3, aI v27), (4, aI l4)]) (st' := []) (cs' := []) (fun _ => rfl) al0 ?_
              refine w_sg k253 1 (pc' := 66) (ls' := [(0, aR 48 0), (1, aI l1), (2, aI l4), (3, aI v27), (4, aI (l4 + (nI 1)))]) (st' := []) (cs' := []) (fun _ => rfl) al0 ?_
              refine w_sg k253 1 (pc' := 21) (ls' := [(0, aR 48 0), (1, aI l1), (2, aI l4), (3, aI v27), (4, aI (l4 + (nI 1)))]) (st' := []) (cs' := []) (fun _ => rfl) al0 ?_
              refine w_ls [(0, aR 48 0), (1, aI l1), (2, aI l4), (3, aI v27), (4, aI (l4 + (nI 1)))] (lq_c rfl (lq_c rfl (lq_c rfl (lq_c rfl (lq_c rfl lq_n))))) ?_
              obtain rfl := Option.some.inj h
              exact ih9 _ _ _ _ _ (lpn_l hn8) kE11 kR12
            · replace h := if_f c h
              refine w_sg k253 2 (pc' := 66) (ls' := [(0, aR 48 0), (1, aI l1), (2, aI l2), (3, aI l3), (4, aI (l4 + (nI 1)))]) (st' := []) (cs' := []) (fun _ => rfl) al0 ?_
              refine w_sg k253 1 (pc' := 21) (ls' := [(0, aR 48 0), (1, aI l1), (2, aI l2), (3, aI l3), (4, aI (l4 + (nI 1)))]) (st' := []) (cs' := []) (fun _ => rfl) al0 ?_
              refine w_ls [(0, aR 48 0), (1, aI l1), (2, aI l2), (3, aI l3), (4, aI (l4 + (nI 1)))] (lq_c rfl (lq_c rfl (lq_c rfl (lq_c rfl (lq_c rfl lq_n))))) ?_
              obtain rfl := Option.some.inj h
              exact ih9 _ _ _ _ _ (lpn_l hn8) kE11 kR12
  have J69_0 : ∀ (l1 : Int32) (l2 : Int32) (Y : Sm), fn_253_J69 l1 l2 Y = some o → Wm 8 0 253 0 69 [(0, aR 48 0), (1, aI l1), (2, aI l2)] [] Y (Rt (some (aI o.1)) o.2) nX := by
    intro l1 l2 Y h
    unfold fn_253_J69 at h
    refine w_sg k253 2 (pc' := 71) (ls' := [(0, aR 48 0), (1, aI l1), (2, aI l2)]) (st' := [aI l2, aR 48 0]) (cs' := []) (fun _ => rfl) al0 ?_
    obtain ⟨v30, Y28, hv29, h⟩ := bd_some h
    refine w_cV1 k253 (sn_214 _ _ _ hv29) rfl (st := []) rfl ?_ (fun _ _ q => q.elim)
    refine w_sg k253 1 (pc' := 76) (ls' := [(0, aR 48 0), (1, aI l1), (2, aI l2), (4, aI v30)]) (st' := []) (cs' := []) (fun _ => rfl) al0 ?_
    obtain ⟨hc31, h⟩ := ck_some h
    refine w_sg k253 4 (pc' := 82) (ls' := [(0, aR 48 0), (1, aI l1), (2, aI l2), (4, aI v30)]) (st' := [aI (gI Y28.1 58 0 (ix l1))]) (cs' := [vp_in l1 5]) (fun _ => rfl) (al1 (vin hc31)) ?_
    obtain rfl := Option.some.inj h
    exact w_ireturn k253 ⟨rfl, rfl⟩
  refine w_sg k253 3 (pc' := 3) (ls' := [(0, aR 48 0), (1, aI a1)]) (st' := [aI a1, aR 48 0, aR 48 0]) (cs' := []) (fun _ => rfl) al0 ?_
  obtain ⟨v3, Y1, hv2, h⟩ := bd_some h
  refine w_cV1 k253 (sn_209 _ _ _ hv2) rfl (st := [aR 48 0]) rfl ?_ (fun _ _ q => q.elim)
  obtain ⟨v6, Y4, hv5, h⟩ := bd_some h
  refine w_cV1 k253 (sn_164 _ _ _ hv5) rfl (st := []) rfl ?_ (fun _ _ q => q.elim)
  refine w_if_ne k253 rfl (fun c => ?_) (fun c => ?_)
  · replace h := if_f c h
    refine w_sg k253 2 (pc' := 16) (ls' := [(0, aR 48 0), (1, aI a1), (2, aI (-1 : Int32))]) (st' := []) (cs' := []) (fun _ => rfl) al0 ?_
    refine w_sg k253 2 (pc' := 18) (ls' := [(0, aR 48 0), (1, aI a1), (2, aI (-1 : Int32)), (3, aI (nI 0))]) (st' := []) (cs' := []) (fun _ => rfl) al0 ?_
    refine w_sg k253 2 (pc' := 21) (ls' := [(0, aR 48 0), (1, aI a1), (2, aI (-1 : Int32)), (3, aI (nI 0)), (4, aI (nI 0))]) (st' := []) (cs' := []) (fun _ => rfl) al0 ?_
    obtain ⟨e34, hl32, hx33⟩ := exd_some h
    refine w_ls [(0, aR 48 0), (1, aI a1), (2, aI (-1 : Int32)), (3, aI (nI 0)), (4, aI (nI 0))] (lq_c rfl (lq_c rfl (lq_c rfl (lq_c rfl (lq_c rfl lq_n))))) ?_
    refine L21_0 _ _ _ _ _ _ e34 hl32 (fun s9 hs9 => ?_) (fun r9 hr9 => ?_)
    · subst hs9
      replace h : fn_253_J69 a1 s9.1 s9.2 = some o := hx33
      refine w_ls [(0, aR 48 0), (1, aI a1), (2, aI s9.1)] (lq_c rfl (lq_c rfl (lq_c rfl lq_n))) ?_
      exact J69_0 _ _ _ h
    · subst hr9
      exact hx33
  · replace h := if_t c h
    refine w_sg k253 1 (pc' := 13) (ls' := [(0, aR 48 0), (1, aI a1)]) (st' := [aI (nI 0)]) (cs' := []) (fun _ => rfl) al0 ?_
    obtain rfl := Option.some.inj h
    exact w_ireturn k253 ⟨rfl, rfl⟩
set_option maxRecDepth 20000 in
set_option maxHeartbeats 4000000 in
/-- BallotBusModel.meanWait -/
theorem sn_254 (a1 : Int32) {Y : Sm} (v : UInt64) (Z : Sm) (h : fn_254 a1 Y = some (v, Z)) : Mt 6 0 254 [aR 48 0, aI a1] Y (Rt (some (aD v)) Z) nX := by
  refine Mt_of [(0, aR 48 0), (1, aI a1)] ?_
  generalize ho : (v, Z) = o at h
  have hv9 : v = o.1 := congrArg Prod.fst ho
  have hZ9 : Z = o.2 := congrArg Prod.snd ho
  clear ho
  subst hv9 hZ9
  unfold fn_254 at h
  refine w_sg k254 3 (pc' := 3) (ls' := [(0, aR 48 0), (1, aI a1)]) (st' := [aI a1, aR 48 0, aR 48 0]) (cs' := []) (fun _ => rfl) al0 ?_
  obtain ⟨v3, Y1, hv2, h⟩ := bd_some h
  refine w_cV1 k254 (sn_209 _ _ _ hv2) rfl (st := [aR 48 0]) rfl ?_ (fun _ _ q => q.elim)
  obtain ⟨v6, Y4, hv5, h⟩ := bd_some h
  refine w_cV1 k254 (sn_164 _ _ _ hv5) rfl (st := []) rfl ?_ (fun _ _ q => q.elim)
  refine w_if_eq k254 rfl (fun c => ?_) (fun c => ?_)
  · replace h := if_t c h
    refine w_sg k254 1 (pc' := 25) (ls' := [(0, aR 48 0), (1, aI a1)]) (st' := [aD FP.dconst0]) (cs' := []) (fun _ => rfl) al0 ?_
    obtain rfl := Option.some.inj h
    exact w_dreturn k254 ⟨rfl, rfl⟩
  · replace h := if_f c h
    obtain ⟨hc7, h⟩ := ck_some h
    refine w_sg k254 6 (pc' := 21) (ls' := [(0, aR 48 0), (1, aI a1)]) (st' := [aI (gI Y4.1 52 0 (ix ((nI 68) + a1)))]) (cs' := [vp_in ((nI 68) + a1) 718]) (fun _ => rfl) (al1 (vin hc7)) ?_
    refine w_if_ne k254 rfl (fun c => ?_) (fun c => ?_)
    · replace h := if_f c h
      obtain ⟨hc8, h⟩ := ck_some h
      refine w_sg k254 8 (pc' := 37) (ls' := [(0, aR 48 0), (1, aI a1)]) (st' := [aR 48 0, aD (FP.i2d (gI Y4.1 52 0 (ix ((nI 73) + a1))))]) (cs' := [vp_in ((nI 73) + a1) 718]) (fun _ => rfl) (al1 (vin hc8)) ?_
      obtain ⟨hc9, h⟩ := ck_some h
      refine w_sg k254 7 (pc' := 47) (ls' := [(0, aR 48 0), (1, aI a1)]) (st' := [aD (FP.ddiv (FP.i2d (gI Y4.1 52 0 (ix ((nI 73) + a1)))) (FP.i2d (gI Y4.1 52 0 (ix ((nI 68) + a1)))))]) (cs' := [vp_in ((nI 68) + a1) 718, vf_n64 (FP.ddiv (FP.i2d (gI Y4.1 52 0 (ix ((nI 73) + a1)))) (FP.i2d (gI Y4.1 52 0 (ix ((nI 68) + a1)))))]) (fun _ => rfl) (al2 (vin hc7) (al1 (nn64_of hc9))) ?_
      obtain rfl := Option.some.inj h
      exact w_dreturn k254 ⟨rfl, rfl⟩
    · replace h := if_t c h
      refine w_sg k254 1 (pc' := 25) (ls' := [(0, aR 48 0), (1, aI a1)]) (st' := [aD FP.dconst0]) (cs' := []) (fun _ => rfl) al0 ?_
      obtain rfl := Option.some.inj h
      exact w_dreturn k254 ⟨rfl, rfl⟩
set_option maxRecDepth 20000 in
set_option maxHeartbeats 4000000 in
/-- BallotBusModel.share -/
theorem sn_255 (a1 : Int32) {Y : Sm} (v : UInt32) (Z : Sm) (h : fn_255 a1 Y = some (v, Z)) : Mt 6 0 255 [aR 48 0, aI a1] Y (Rt (some (aF v)) Z) nX := by
  refine Mt_of [(0, aR 48 0), (1, aI a1)] ?_
  generalize ho : (v, Z) = o at h
  have hv9 : v = o.1 := congrArg Prod.fst ho
  have hZ9 : Z = o.2 := congrArg Prod.snd ho
  clear ho
  subst hv9 hZ9
  unfold fn_255 at h
  have L18_0 : ∀ (l1 : Int32) (n : Nat) (l2 : Int32) (l3 : Int32) (Y : Sm) (e10 : (Int32 × Sm) ⊕ (UInt32 × Sm)), lp (fun s => fn_255_L18 l1 s.1 s.2.1 s.2.2) n (l2, l3, Y) = some e10 → (∀ s9 : (Int32 × Sm), e10 = .inl s9 → Wm 6 0 255 0 44 [(0, aR 48 0), (1, aI l1), (2, aI s9.1)] [] s9.2 (Rt (some (aF o.1)) o.2) nX) → (∀ r, e10 = .inr r → r = o) → Wm 6 0 255 0 18 [(0, aR 48 0), (1, aI l1), (2, aI l2), (3, aI l3)] [] Y (Rt (some (aF o.1)) o.2) nX := by
    intro l1 n
    induction n with
    | zero => intro l2 l3 Y e10 h; cases h
    | succ n ih9 =>
      intro l2 l3 Y e10 h kE11 kR12
      obtain ⟨q7, h, hn8⟩ := lp_succ h
      replace h : fn_255_L18 l1 l2 l3 Y = some q7 := h
      unfold fn_255_L18 at h
      refine w_sg k255 3 (pc' := 23) (ls' := [(0, aR 48 0), (1, aI l1), (2, aI l2), (3, aI l3)]) (st' := [aI (gI Y.1 48 0 2), aI l3]) (cs' := []) (fun _ => rfl) al0 ?_
      refine w_icmp_ge k255 rfl (fun c => ?_) (fun c => ?_)
      · replace h := if_t c h
        refine w_ls [(0, aR 48 0), (1, aI l1), (2, aI l2)] (lq_c rfl (lq_c rfl (lq_c rfl lq_n))) ?_
        obtain rfl := Option.some.inj h
        obtain rfl := lpn_r hn8
        exact kE11 (l2, Y) rfl
      · replace h := if_f c h
        obtain ⟨hc13, h⟩ := ck_some h
        refine w_sg k255 8 (pc' := 37) (ls' := [(0, aR 48 0), (1, aI l1), (2, aI l2), (3, aI l3)]) (st' := [aI (l2 + (gI Y.1 52 0 (ix ((nI 60) + l3))))]) (cs' := [vp_in ((nI 60) + l3) 718]) (fun _ => rfl) (al1 (vin hc13)) ?_
        refine w_sg k255 1 (pc' := 38) (ls' := [(0, aR 48 0), (1, aI l1), (2, aI (l2 + (gI Y.1 52 0 (ix ((nI 60) + l3))))), (3, aI l3)]) (st' := []) (cs' := []) (fun _ => rfl) al0 ?_
        refine w_sg k255 1 (pc' := 41) (ls' := [(0, aR 48 0), (1, aI l1), (2, aI (l2 + (gI Y.1 52 0 (ix ((nI 60) + l3))))), (3, aI (l3 + (nI 1)))]) (st' := []) (cs' := []) (fun _ => rfl) al0 ?_
        refine w_sg k255 1 (pc' := 18) (ls' := [(0, aR 48 0), (1, aI l1), (2, aI (l2 + (gI Y.1 52 0 (ix ((nI 60) + l3))))), (3, aI (l3 + (nI 1)))]) (st' := []) (cs' := []) (fun _ => rfl) al0 ?_
        refine w_ls [(0, aR 48 0), (1, aI l1), (2, aI (l2 + (gI Y.1 52 0 (ix ((nI 60) + l3))))), (3, aI (l3 + (nI 1)))] (lq_c rfl (lq_c rfl (lq_c rfl (lq_c rfl lq_n)))) ?_
        obtain rfl := Option.some.inj h
        exact ih9 _ _ _ _ (lpn_l hn8) kE11 kR12
  have J44_0 : ∀ (l1 : Int32) (l2 : Int32) (Y : Sm), fn_255_J44 l1 l2 Y = some o → Wm 6 0 255 0 44 [(0, aR 48 0), (1, aI l1), (2, aI l2)] [] Y (Rt (some (aF o.1)) o.2) nX := by
    intro l1 l2 Y h
    unfold fn_255_J44 at h
    refine w_sg k255 1 (pc' := 45) (ls' := [(0, aR 48 0), (1, aI l1), (2, aI l2)]) (st' := [aI l2]) (cs' := []) (fun _ => rfl) al0 ?_
    refine w_if_ne k255 rfl (fun c => ?_) (fun c => ?_)
    · replace h := if_f c h
      obtain ⟨hc14, h⟩ := ck_some h
      refine w_sg k255 8 (pc' := 63) (ls' := [(0, aR 48 0), (1, aI l1), (2, aI l2)]) (st' := [aI l2, aF (FP.i2f (gI Y.1 52 0 (ix ((nI 60) + l1))))]) (cs' := [vp_in ((nI 60) + l1) 718]) (fun _ => rfl) (al1 (vin hc14)) ?_
      obtain ⟨hc15, h⟩ := ck_some h
      refine w_sg k255 2 (pc' := 65) (ls' := [(0, aR 48 0), (1, aI l1), (2, aI l2)]) (st' := [aF (FP.fdiv (FP.i2f (gI Y.1 52 0 (ix ((nI 60) + l1)))) (FP.i2f l2))]) (cs' := [vf_n32 (FP.fdiv (FP.i2f (gI Y.1 52 0 (ix ((nI 60) + l1)))) (FP.i2f l2))]) (fun _ => rfl) (al1 (nn32_of hc15)) ?_
      obtain rfl := Option.some.inj h
      exact w_freturn k255 ⟨rfl, rfl⟩
    · replace h := if_t c h
      refine w_sg k255 2 (pc' := 65) (ls' := [(0, aR 48 0), (1, aI l1), (2, aI l2)]) (st' := [aF FP.fconst0]) (cs' := []) (fun _ => rfl) al0 ?_
      obtain rfl := Option.some.inj h
      exact w_freturn k255 ⟨rfl, rfl⟩
  refine w_sg k255 3 (pc' := 3) (ls' := [(0, aR 48 0), (1, aI a1)]) (st' := [aI a1, aR 48 0, aR 48 0]) (cs' := []) (fun _ => rfl) al0 ?_
  obtain ⟨v3, Y1, hv2, h⟩ := bd_some h
  refine w_cV1 k255 (sn_208 _ _ _ hv2) rfl (st := [aR 48 0]) rfl ?_ (fun _ _ q => q.elim)
  obtain ⟨v6, Y4, hv5, h⟩ := bd_some h
  refine w_cV1 k255 (sn_164 _ _ _ hv5) rfl (st := []) rfl ?_ (fun _ _ q => q.elim)
  refine w_if_ne k255 rfl (fun c => ?_) (fun c => ?_)
  · replace h := if_f c h
    refine w_sg k255 2 (pc' := 16) (ls' := [(0, aR 48 0), (1, aI a1), (2, aI (nI 0))]) (st' := []) (cs' := []) (fun _ => rfl) al0 ?_
    refine w_sg k255 2 (pc' := 18) (ls' := [(0, aR 48 0), (1, aI a1), (2, aI (nI 0)), (3, aI (nI 0))]) (st' := []) (cs' := []) (fun _ => rfl) al0 ?_
    obtain ⟨e18, hl16, hx17⟩ := exd_some h
    refine w_ls [(0, aR 48 0), (1, aI a1), (2, aI (nI 0)), (3, aI (nI 0))] (lq_c rfl (lq_c rfl (lq_c rfl (lq_c rfl lq_n)))) ?_
    refine L18_0 _ _ _ _ _ e18 hl16 (fun s9 hs9 => ?_) (fun r9 hr9 => ?_)
    · subst hs9
      replace h : fn_255_J44 a1 s9.1 s9.2 = some o := hx17
      refine w_ls [(0, aR 48 0), (1, aI a1), (2, aI s9.1)] (lq_c rfl (lq_c rfl (lq_c rfl lq_n))) ?_
      exact J44_0 _ _ _ h
    · subst hr9
      exact hx17
  · replace h := if_t c h
    refine w_sg k255 1 (pc' := 13) (ls' := [(0, aR 48 0), (1, aI a1)]) (st' := [aF FP.fconst0]) (cs' := []) (fun _ => rfl) al0 ?_
    obtain rfl := Option.some.inj h
    exact w_freturn k255 ⟨rfl, rfl⟩
set_option maxRecDepth 20000 in
set_option maxHeartbeats 4000000 in
/-- BallotBusModel.debts -/
theorem sn_256 {Y : Sm} (v : Int32) (Z : Sm) (h : fn_256 Y = some (v, Z)) : Mt 4 0 256 [aR 48 0] Y (Rt (some (aI v)) Z) nX := by
  refine Mt_of [(0, aR 48 0)] ?_
  generalize ho : (v, Z) = o at h
  have hv9 : v = o.1 := congrArg Prod.fst ho
  have hZ9 : Z = o.2 := congrArg Prod.snd ho
  clear ho
  subst hv9 hZ9
  unfold fn_256 at h
  have L9_0 : ∀ (n : Nat) (l1 : Int32) (l2 : Int32) (Y : Sm), lp (fun s => fn_256_L9 s.1 s.2.1 s.2.2) n (l1, l2, Y) = some o → Wm 4 0 256 0 9 [(0, aR 48 0), (1, aI l1), (2, aI l2)] [] Y (Rt (some (aI o.1)) o.2) nX := by
    intro n
    induction n with
    | zero => intro l1 l2 Y h; cases h
    | succ n ih4 =>
      intro l1 l2 Y h
      obtain ⟨q2, h, hn3⟩ := lp_succ h
      replace h : fn_256_L9 l1 l2 Y = some q2 := h
      unfold fn_256_L9 at h
      refine w_sg k256 3 (pc' := 14) (ls' := [(0, aR 48 0), (1, aI l1), (2, aI l2)]) (st' := [aI (gI Y.1 48 0 2), aI l2]) (cs' := []) (fun _ => rfl) al0 ?_
      refine w_icmp_ge k256 rfl (fun c => ?_) (fun c => ?_)
      · replace h := if_t c h
        refine w_sg k256 1 (pc' := 36) (ls' := [(0, aR 48 0), (1, aI l1), (2, aI l2)]) (st' := [aI l1]) (cs' := []) (fun _ => rfl) al0 ?_
        obtain rfl := Option.some.inj h
        obtain rfl := lpn_r hn3
        exact w_ireturn k256 ⟨rfl, rfl⟩
      · replace h := if_f c h
        obtain ⟨hc5, h⟩ := ck_some h
        refine w_sg k256 8 (pc' := 28) (ls' := [(0, aR 48 0), (1, aI l1), (2, aI l2)]) (st' := [aI (l1 + (gI Y.1 52 0 (ix ((nI 28) + l2))))]) (cs' := [vp_in ((nI 28) + l2) 718]) (fun _ => rfl) (al1 (vin hc5)) ?_
        refine w_sg k256 1 (pc' := 29) (ls' := [(0, aR 48 0), (1, aI (l1 + (gI Y.1 52 0 (ix ((nI 28) + l2))))), (2, aI l2)]) (st' := []) (cs' := []) (fun _ => rfl) al0 ?_
        refine w_sg k256 1 (pc' := 32) (ls' := [(0, aR 48 0), (1, aI (l1 + (gI Y.1 52 0 (ix ((nI 28) + l2))))), (2, aI (l2 + (nI 1)))]) (st' := []) (cs' := []) (fun _ => rfl) al0 ?_
        refine w_sg k256 1 (pc' := 9) (ls' := [(0, aR 48 0), (1, aI (l1 + (gI Y.1 52 0 (ix ((nI 28) + l2))))), (2, aI (l2 + (nI 1)))]) (st' := []) (cs' := []) (fun _ => rfl) al0 ?_
        refine w_ls [(0, aR 48 0), (1, aI (l1 + (gI Y.1 52 0 (ix ((nI 28) + l2))))), (2, aI (l2 + (nI 1)))] (lq_c rfl (lq_c rfl (lq_c rfl lq_n))) ?_
        obtain rfl := Option.some.inj h
        exact ih4 _ _ _ (lpn_l hn3)
  refine w_sw k256 3 (Z := (sI Y 48 0 0 (nI 0))) (pc' := 5) (ls' := [(0, aR 48 0)]) (st' := []) (cs' := [allw 48 0]) (fun _ => rfl) rfl (al1 rfl) ?_
  replace h := wr_some h
  generalize (sI Y 48 0 0 (nI 0)) = Y1 at h ⊢
  refine w_sg k256 2 (pc' := 7) (ls' := [(0, aR 48 0), (1, aI (nI 0))]) (st' := []) (cs' := []) (fun _ => rfl) al0 ?_
  refine w_sg k256 2 (pc' := 9) (ls' := [(0, aR 48 0), (1, aI (nI 0)), (2, aI (nI 0))]) (st' := []) (cs' := []) (fun _ => rfl) al0 ?_
  refine w_ls [(0, aR 48 0), (1, aI (nI 0)), (2, aI (nI 0))] (lq_c rfl (lq_c rfl (lq_c rfl lq_n))) ?_
  exact L9_0 _ _ _ _ h
set_option maxRecDepth 20000 in
set_option maxHeartbeats 4000000 in
/-- BallotBusModel.worthOf -/
theorem sn_257 (a1 : Int32) {Y : Sm} (v : Int32) (Z : Sm) (h : fn_257 a1 Y = some (v, Z)) : Mt 4 0 257 [aR 48 0, aI a1] Y (Rt (some (aI v)) Z) nX := by
  refine Mt_of [(0, aR 48 0), (1, aI a1)] ?_
  generalize ho : (v, Z) = o at h
  have hv9 : v = o.1 := congrArg Prod.fst ho
  have hZ9 : Z = o.2 := congrArg Prod.snd ho
  clear ho
  subst hv9 hZ9
  unfold fn_257 at h
  obtain ⟨hc1, h⟩ := ck_some h
  refine w_sg k257 8 (pc' := 13) (ls' := [(0, aR 48 0), (1, aI a1)]) (st' := [aR 52 0, aI (gI Y.1 52 0 (ix ((nI 20) + a1)))]) (cs' := [vp_in ((nI 20) + a1) 718]) (fun _ => rfl) (al1 (vin hc1)) ?_
  obtain ⟨hc2, h⟩ := ck_some h
  refine w_sg k257 5 (pc' := 19) (ls' := [(0, aR 48 0), (1, aI a1)]) (st' := [aI ((gI Y.1 52 0 (ix ((nI 20) + a1))) - (gI Y.1 52 0 (ix ((nI 28) + a1))))]) (cs' := [vp_in ((nI 28) + a1) 718]) (fun _ => rfl) (al1 (vin hc2)) ?_
  obtain rfl := Option.some.inj h
  exact w_ireturn k257 ⟨rfl, rfl⟩
set_option maxRecDepth 20000 in
set_option maxHeartbeats 4000000 in
/-- BallotBusModel.richest -/
theorem sn_258 {Y : Sm} (v : Int32) (Z : Sm) (h : fn_258 Y = some (v, Z)) : Mt 5 0 258 [aR 48 0] Y (Rt (some (aI v)) Z) nX := by
  refine Mt_of [(0, aR 48 0)] ?_
  generalize ho : (v, Z) = o at h
  have hv9 : v = o.1 := congrArg Prod.fst ho
  have hZ9 : Z = o.2 := congrArg Prod.snd ho
  clear ho
  subst hv9 hZ9
  unfold fn_258 at h
  have L9_0 : ∀ (n : Nat) (l1 : Int32) (l2 : Int32) (Y : Sm), lp (fun s => fn_258_L9 s.1 s.2.1 s.2.2) n (l1, l2, Y) = some o → Wm 5 0 258 0 9 [(0, aR 48 0), (1, aI l1), (2, aI l2)] [] Y (Rt (some (aI o.1)) o.2) nX := by
    intro n
    induction n with
    | zero => intro l1 l2 Y h; cases h
    | succ n ih4 =>
      intro l1 l2 Y h
      obtain ⟨q2, h, hn3⟩ := lp_succ h
      replace h : fn_258_L9 l1 l2 Y = some q2 := h
      unfold fn_258_L9 at h
      refine w_sg k258 3 (pc' := 14) (ls' := [(0, aR 48 0), (1, aI l1), (2, aI l2)]) (st' := [aI (gI Y.1 48 0 2), aI l2]) (cs' := []) (fun _ => rfl) al0 ?_
      refine w_icmp_ge k258 rfl (fun c => ?_) (fun c => ?_)
      · replace h := if_t c h
        refine w_sg k258 1 (pc' := 39) (ls' := [(0, aR 48 0), (1, aI l1), (2, aI l2)]) (st' := [aI l1]) (cs' := []) (fun _ => rfl) al0 ?_
        obtain rfl := Option.some.inj h
        obtain rfl := lpn_r hn3
        exact w_ireturn k258 ⟨rfl, rfl⟩
      · replace h := if_f c h
        refine w_sg k258 2 (pc' := 19) (ls' := [(0, aR 48 0), (1, aI l1), (2, aI l2)]) (st' := [aI l2, aR 48 0]) (cs' := []) (fun _ => rfl) al0 ?_
        obtain ⟨v7, Y5, hv6, h⟩ := bd_some h
        refine w_cV1 k258 (sn_257 _ _ _ hv6) rfl (st := []) rfl ?_ (fun _ _ q => q.elim)
        refine w_sg k258 2 (pc' := 24) (ls' := [(0, aR 48 0), (1, aI l1), (2, aI l2)]) (st' := [aI l1, aR 48 0, aI v7]) (cs' := []) (fun _ => rfl) al0 ?_
        obtain ⟨v10, Y8, hv9, h⟩ := bd_some h
        refine w_cV1 k258 (sn_257 _ _ _ hv9) rfl (st := [aI v7]) rfl ?_ (fun _ _ q => q.elim)
        refine w_icmp_le k258 rfl (fun c => ?_) (fun c => ?_)
        · replace h := if_t c h
          refine w_sg k258 1 (pc' := 35) (ls' := [(0, aR 48 0), (1, aI l1), (2, aI (l2 + (nI 1)))]) (st' := []) (cs' := []) (fun _ => rfl) al0 ?_
          refine w_sg k258 1 (pc' := 9) (ls' := [(0, aR 48 0), (1, aI l1), (2, aI (l2 + (nI 1)))]) (st' := []) (cs' := []) (fun _ => rfl) al0 ?_
          refine w_ls [(0, aR 48 0), (1, aI l1), (2, aI (l2 + (nI 1)))] (lq_c rfl (lq_c rfl (lq_c rfl lq_n))) ?_
          obtain rfl := Option.some.inj h
          exact ih4 _ _ _ (lpn_l hn3)
        · replace h := if_f c h
          refine w_sg k258 2 (pc' := 32) (ls' := [(0, aR 48 0), (1, aI l2), (2, aI l2)]) (st' := []) (cs' := []) (fun _ => rfl) al0 ?_
          refine w_sg k258 1 (pc' := 35) (ls' := [(0, aR 48 0), (1, aI l2), (2, aI (l2 + (nI 1)))]) (st' := []) (cs' := []) (fun _ => rfl) al0 ?_
          refine w_sg k258 1 (pc' := 9) (ls' := [(0, aR 48 0), (1, aI l2), (2, aI (l2 + (nI 1)))]) (st' := []) (cs' := []) (fun _ => rfl) al0 ?_
          refine w_ls [(0, aR 48 0), (1, aI l2), (2, aI (l2 + (nI 1)))] (lq_c rfl (lq_c rfl (lq_c rfl lq_n))) ?_
          obtain rfl := Option.some.inj h
          exact ih4 _ _ _ (lpn_l hn3)
  refine w_sw k258 3 (Z := (sI Y 48 0 0 (nI 0))) (pc' := 5) (ls' := [(0, aR 48 0)]) (st' := []) (cs' := [allw 48 0]) (fun _ => rfl) rfl (al1 rfl) ?_
  replace h := wr_some h
  generalize (sI Y 48 0 0 (nI 0)) = Y1 at h ⊢
  refine w_sg k258 2 (pc' := 7) (ls' := [(0, aR 48 0), (1, aI (nI 0))]) (st' := []) (cs' := []) (fun _ => rfl) al0 ?_
  refine w_sg k258 2 (pc' := 9) (ls' := [(0, aR 48 0), (1, aI (nI 0)), (2, aI (nI 1))]) (st' := []) (cs' := []) (fun _ => rfl) al0 ?_
  refine w_ls [(0, aR 48 0), (1, aI (nI 0)), (2, aI (nI 1))] (lq_c rfl (lq_c rfl (lq_c rfl lq_n))) ?_
  exact L9_0 _ _ _ _ h
set_option maxRecDepth 20000 in
set_option maxHeartbeats 4000000 in
/-- BallotBusModel.copies -/
theorem sn_170_52_55 {Y : Sm} (v : Unit) (Z : Sm) (h : fn_170_52_55 Y = some (v, Z)) : Mt 4 0 170 [aR 52 0, aR 55 0] Y (Rt none Z) nX := by
  refine Mt_of [(0, aR 52 0), (1, aR 55 0)] ?_
  generalize ho : (v, Z) = o at h
  have hv9 : v = o.1 := congrArg Prod.fst ho
  have hZ9 : Z = o.2 := congrArg Prod.snd ho
  clear ho
  subst hv9 hZ9
  unfold fn_170_52_55 at h
  have L2_0 : ∀ (n : Nat) (l2 : Int32) (Y : Sm), lp (fun s => fn_170_52_55_L2 s.1 s.2) n (l2, Y) = some o → Wm 4 0 170 0 2 [(0, aR 52 0), (1, aR 55 0), (2, aI l2)] [] Y (Rt none o.2) nX := by
    intro n
    induction n with
    | zero => intro l2 Y h; cases h
    | succ n ih3 =>
      intro l2 Y h
      obtain ⟨q1, h, hn2⟩ := lp_succ h
      replace h : fn_170_52_55_L2 l2 Y = some q1 := h
      unfold fn_170_52_55_L2 at h
      refine w_sg k170 2 (pc' := 6) (ls' := [(0, aR 52 0), (1, aR 55 0), (2, aI l2)]) (st' := [aI (nI 718), aI l2]) (cs' := []) (fun _ => rfl) al0 ?_
      refine w_icmp_ge k170 rfl (fun c => ?_) (fun c => ?_)
      · replace h := if_t c h
        obtain rfl := Option.some.inj h
        obtain rfl := lpn_r hn2
        exact w_return k170 ⟨rfl, rfl⟩
      · replace h := if_f c h
        obtain ⟨hc4, h⟩ := ck_some h
        refine w_sw k170 6 (Z := (sI Y 55 0 (ix l2) (gI Y.1 52 0 (ix l2)))) (pc' := 15) (ls' := [(0, aR 52 0), (1, aR 55 0), (2, aI l2)]) (st' := []) (cs' := [vp_in l2 718, vp_in l2 718, allw 55 0]) (fun _ => rfl) rfl (al2 (vin hc4) (al2 (vin hc4) (al1 rfl))) ?_
        replace h := wr_some h
        generalize (sI Y 55 0 (ix l2) (gI Y.1 52 0 (ix l2))) = Y5 at h ⊢
        refine w_sg k170 1 (pc' := 18) (ls' := [(0, aR 52 0), (1, aR 55 0), (2, aI (l2 + (nI 1)))]) (st' := []) (cs' := []) (fun _ => rfl) al0 ?_
        refine w_sg k170 1 (pc' := 2) (ls' := [(0, aR 52 0), (1, aR 55 0), (2, aI (l2 + (nI 1)))]) (st' := []) (cs' := []) (fun _ => rfl) al0 ?_
        refine w_ls [(0, aR 52 0), (1, aR 55 0), (2, aI (l2 + (nI 1)))] (lq_c rfl (lq_c rfl (lq_c rfl lq_n))) ?_
        obtain rfl := Option.some.inj h
        exact ih3 _ _ (lpn_l hn2)
  refine w_sg k170 2 (pc' := 2) (ls' := [(0, aR 52 0), (1, aR 55 0), (2, aI (nI 0))]) (st' := []) (cs' := []) (fun _ => rfl) al0 ?_
  refine w_ls [(0, aR 52 0), (1, aR 55 0), (2, aI (nI 0))] (lq_c rfl (lq_c rfl (lq_c rfl lq_n))) ?_
  exact L2_0 _ _ _ h
set_option maxRecDepth 20000 in
set_option maxHeartbeats 4000000 in
/-- BallotBusModel.tries -/
theorem sn_176 {Y : Sm} (v : Unit) (Z : Sm) (h : fn_176 Y = some (v, Z)) : Mt 5 0 176 [aR 48 0] Y (Rt none Z) nX := by
  refine Mt_of [(0, aR 48 0)] ?_
  generalize ho : (v, Z) = o at h
  have hv9 : v = o.1 := congrArg Prod.fst ho
  have hZ9 : Z = o.2 := congrArg Prod.snd ho
  clear ho
  subst hv9 hZ9
  unfold fn_176 at h
  refine w_sg k176 4 (pc' := 8) (ls' := [(0, aR 48 0)]) (st' := [aR 55 0, aR 52 0]) (cs' := []) (fun _ => rfl) al0 ?_
  obtain ⟨_, Y1, hv2, h⟩ := bd_some h
  refine w_cS0 k176 (sn_170_52_55  _ _ hv2) rfl (st := []) rfl ?_ (fun _ _ q => q.elim)
  obtain rfl := Option.some.inj h
  exact w_return k176 ⟨rfl, rfl⟩
set_option maxRecDepth 20000 in
set_option maxHeartbeats 4000000 in
/-- BallotBusModel.copies -/
theorem sn_170_55_52 {Y : Sm} (v : Unit) (Z : Sm) (h : fn_170_55_52 Y = some (v, Z)) : Mt 4 0 170 [aR 55 0, aR 52 0] Y (Rt none Z) nX := by
  refine Mt_of [(0, aR 55 0), (1, aR 52 0)] ?_
  generalize ho : (v, Z) = o at h
  have hv9 : v = o.1 := congrArg Prod.fst ho
  have hZ9 : Z = o.2 := congrArg Prod.snd ho
  clear ho
  subst hv9 hZ9
  unfold fn_170_55_52 at h
  have L2_0 : ∀ (n : Nat) (l2 : Int32) (Y : Sm), lp (fun s => fn_170_55_52_L2 s.1 s.2) n (l2, Y) = some o → Wm 4 0 170 0 2 [(0, aR 55 0), (1, aR 52 0), (2, aI l2)] [] Y (Rt none o.2) nX := by
    intro n
    induction n with
    | zero => intro l2 Y h; cases h
    | succ n ih3 =>
      intro l2 Y h
      obtain ⟨q1, h, hn2⟩ := lp_succ h
      replace h : fn_170_55_52_L2 l2 Y = some q1 := h
      unfold fn_170_55_52_L2 at h
      refine w_sg k170 2 (pc' := 6) (ls' := [(0, aR 55 0), (1, aR 52 0), (2, aI l2)]) (st' := [aI (nI 718), aI l2]) (cs' := []) (fun _ => rfl) al0 ?_
      refine w_icmp_ge k170 rfl (fun c => ?_) (fun c => ?_)
      · replace h := if_t c h
        obtain rfl := Option.some.inj h
        obtain rfl := lpn_r hn2
        exact w_return k170 ⟨rfl, rfl⟩
      · replace h := if_f c h
        obtain ⟨hc4, h⟩ := ck_some h
        refine w_sw k170 6 (Z := (sI Y 52 0 (ix l2) (gI Y.1 55 0 (ix l2)))) (pc' := 15) (ls' := [(0, aR 55 0), (1, aR 52 0), (2, aI l2)]) (st' := []) (cs' := [vp_in l2 718, vp_in l2 718, allw 52 0]) (fun _ => rfl) rfl (al2 (vin hc4) (al2 (vin hc4) (al1 rfl))) ?_
        replace h := wr_some h
        generalize (sI Y 52 0 (ix l2) (gI Y.1 55 0 (ix l2))) = Y5 at h ⊢
        refine w_sg k170 1 (pc' := 18) (ls' := [(0, aR 55 0), (1, aR 52 0), (2, aI (l2 + (nI 1)))]) (st' := []) (cs' := []) (fun _ => rfl) al0 ?_
        refine w_sg k170 1 (pc' := 2) (ls' := [(0, aR 55 0), (1, aR 52 0), (2, aI (l2 + (nI 1)))]) (st' := []) (cs' := []) (fun _ => rfl) al0 ?_
        refine w_ls [(0, aR 55 0), (1, aR 52 0), (2, aI (l2 + (nI 1)))] (lq_c rfl (lq_c rfl (lq_c rfl lq_n))) ?_
        obtain rfl := Option.some.inj h
        exact ih3 _ _ (lpn_l hn2)
  refine w_sg k170 2 (pc' := 2) (ls' := [(0, aR 55 0), (1, aR 52 0), (2, aI (nI 0))]) (st' := []) (cs' := []) (fun _ => rfl) al0 ?_
  refine w_ls [(0, aR 55 0), (1, aR 52 0), (2, aI (nI 0))] (lq_c rfl (lq_c rfl (lq_c rfl lq_n))) ?_
  exact L2_0 _ _ _ h
set_option maxRecDepth 20000 in
set_option maxHeartbeats 4000000 in
/-- BallotBusModel.laysBack -/
theorem sn_177 (a1 : Int32) {Y : Sm} (v : Int32) (Z : Sm) (h : fn_177 a1 Y = some (v, Z)) : Mt 5 0 177 [aR 48 0, aI a1] Y (Rt (some (aI v)) Z) nX := by
  refine Mt_of [(0, aR 48 0), (1, aI a1)] ?_
  generalize ho : (v, Z) = o at h
  have hv9 : v = o.1 := congrArg Prod.fst ho
  have hZ9 : Z = o.2 := congrArg Prod.snd ho
  clear ho
  subst hv9 hZ9
  unfold fn_177 at h
  refine w_sg k177 4 (pc' := 8) (ls' := [(0, aR 48 0), (1, aI a1)]) (st' := [aR 52 0, aR 55 0]) (cs' := []) (fun _ => rfl) al0 ?_
  obtain ⟨_, Y1, hv2, h⟩ := bd_some h
  refine w_cS0 k177 (sn_170_55_52  _ _ hv2) rfl (st := []) rfl ?_ (fun _ _ q => q.elim)
  refine w_sg k177 1 (pc' := 12) (ls' := [(0, aR 48 0), (1, aI a1)]) (st' := [aI a1]) (cs' := []) (fun _ => rfl) al0 ?_
  obtain rfl := Option.some.inj h
  exact w_ireturn k177 ⟨rfl, rfl⟩
set_option maxRecDepth 20000 in
set_option maxHeartbeats 4000000 in
/-- BallotBusModel.answeredIn -/
theorem sn_259 (a1 : Int32) (a2 : Int32) {Y : Sm} (v : Int32) (Z : Sm) (h : fn_259 a1 a2 Y = some (v, Z)) : Mt 13 0 259 [aR 48 0, aI a1, aI a2] Y (Rt (some (aI v)) Z) nX := by
  refine Mt_of [(0, aR 48 0), (1, aI a1), (2, aI a2)] ?_
  generalize ho : (v, Z) = o at h
  have hv9 : v = o.1 := congrArg Prod.fst ho
  have hZ9 : Z = o.2 := congrArg Prod.snd ho
  clear ho
  subst hv9 hZ9
  unfold fn_259 at h
  have L41_0 : ∀ (l1 : Int32) (l2 : Int32) (n : Nat) (l3 : Int32) (Y : Sm) (e18 : (Int32 × Sm) ⊕ (Int32 × Sm)), lp (fun s => fn_259_L41 l1 l2 s.1 s.2) n (l3, Y) = some e18 → (∀ s9 : (Int32 × Sm), e18 = .inl s9 → Wm 13 0 259 0 66 [(0, aR 48 0), (1, aI l1), (3, aI s9.1)] [] s9.2 (Rt (some (aI o.1)) o.2) nX) → (∀ r, e18 = .inr r → r = o) → Wm 13 0 259 0 41 [(0, aR 48 0), (1, aI l1), (2, aI l2), (3, aI l3)] [] Y (Rt (some (aI o.1)) o.2) nX := by
    intro l1 l2 n
    induction n with
    | zero => intro l3 Y e18 h; cases h
    | succ n ih17 =>
      intro l3 Y e18 h kE19 kR20
      obtain ⟨q15, h, hn16⟩ := lp_succ h
      replace h : fn_259_L41 l1 l2 l3 Y = some q15 := h
      unfold fn_259_L41 at h
      refine w_sg k259 2 (pc' := 43) (ls' := [(0, aR 48 0), (1, aI l1), (2, aI l2), (3, aI l3)]) (st' := [aI l2, aI l3]) (cs' := []) (fun _ => rfl) al0 ?_
      refine w_icmp_ge k259 rfl (fun c => ?_) (fun c => ?_)
      · replace h := if_t c h
        refine w_ls [(0, aR 48 0), (1, aI l1), (3, aI l3)] (lq_c rfl (lq_c rfl (lq_c rfl lq_n))) ?_
        obtain rfl := Option.some.inj h
        obtain rfl := lpn_r hn16
        exact kE19 (l3, Y) rfl
      · replace h := if_f c h
        refine w_sg k259 2 (pc' := 48) (ls' := [(0, aR 48 0), (1, aI l1), (2, aI l2), (3, aI l3)]) (st' := [aI l1, aR 48 0]) (cs' := []) (fun _ => rfl) al0 ?_
        obtain ⟨v23, Y21, hv22, h⟩ := bd_some h
        refine w_cV1 k259 (sn_179 _ _ _ hv22) rfl (st := []) rfl ?_ (fun _ _ q => q.elim)
        refine w_sg k259 1 (pc' := 52) (ls' := [(0, aR 48 0), (1, aI l1), (2, aI l2), (3, aI l3)]) (st' := [aI (-1 : Int32), aI v23]) (cs' := []) (fun _ => rfl) al0 ?_
        refine w_icmp_eq k259 rfl (fun c => ?_) (fun c => ?_)
        · replace h := if_t c h
          refine w_ls [(0, aR 48 0), (1, aI l1), (3, aI l3)] (lq_c rfl (lq_c rfl (lq_c rfl lq_n))) ?_
          obtain rfl := Option.some.inj h
          obtain rfl := lpn_r hn16
          exact kE19 (l3, Y21) rfl
        · replace h := if_f c h
          refine w_sg k259 1 (pc' := 56) (ls' := [(0, aR 48 0), (1, aI l1), (2, aI l2), (3, aI l3)]) (st' := [aR 48 0]) (cs' := []) (fun _ => rfl) al0 ?_
          obtain ⟨_, Y24, hv25, h⟩ := bd_some h
          refine w_cV0 k259 (sn_205  _ _ hv25) rfl (st := []) rfl ?_ (fun _ _ q => q.elim)
          refine w_sg k259 4 (pc' := 63) (ls' := [(0, aR 48 0), (1, aI l1), (2, aI l2), (3, aI (l3 + (nI 1)))]) (st' := []) (cs' := []) (fun _ => rfl) al0 ?_
          refine w_sg k259 1 (pc' := 41) (ls' := [(0, aR 48 0), (1, aI l1), (2, aI l2), (3, aI (l3 + (nI 1)))]) (st' := []) (cs' := []) (fun _ => rfl) al0 ?_
          refine w_ls [(0, aR 48 0), (1, aI l1), (2, aI l2), (3, aI (l3 + (nI 1)))] (lq_c rfl (lq_c rfl (lq_c rfl (lq_c rfl lq_n)))) ?_
          obtain rfl := Option.some.inj h
          exact ih17 _ _ _ (lpn_l hn16) kE19 kR20
  have J80_0 : ∀ (l3 : Int32) (t0 : Int32) (Y : Sm), fn_259_J80 l3 t0 Y = some o → Wm 13 0 259 0 80 [(0, aR 48 0), (3, aI l3)] [aI t0] Y (Rt (some (aI o.1)) o.2) nX := by
    intro l3 t0 Y h
    unfold fn_259_J80 at h
    refine w_sg k259 1 (pc' := 82) (ls' := [(0, aR 48 0), (3, aI l3), (4, aI t0)]) (st' := []) (cs' := []) (fun _ => rfl) al0 ?_
    refine w_sg k259 2 (pc' := 85) (ls' := [(0, aR 48 0), (3, aI l3), (4, aI t0)]) (st' := [aI t0, aR 48 0]) (cs' := []) (fun _ => rfl) al0 ?_
    refine w_if_eq k259 rfl (fun c => ?_) (fun c => ?_)
    · replace h := if_t c h
      refine w_sg k259 1 (pc' := 93) (ls' := [(0, aR 48 0), (3, aI l3), (4, aI t0)]) (st' := [aI l3, aR 48 0]) (cs' := []) (fun _ => rfl) al0 ?_
      obtain ⟨v31, Y29, hv30, h⟩ := bd_some h
      refine w_cV1 k259 (sn_177 _ _ _ hv30) rfl (st := []) rfl ?_ (fun _ _ q => q.elim)
      obtain rfl := Option.some.inj h
      exact w_ireturn k259 ⟨rfl, rfl⟩
    · replace h := if_f c h
      refine w_sg k259 2 (pc' := 93) (ls' := [(0, aR 48 0), (3, aI l3), (4, aI t0)]) (st' := [aI (-1 : Int32), aR 48 0]) (cs' := []) (fun _ => rfl) al0 ?_
      obtain ⟨v34, Y32, hv33, h⟩ := bd_some h
      refine w_cV1 k259 (sn_177 _ _ _ hv33) rfl (st := []) rfl ?_ (fun _ _ q => q.elim)
      obtain rfl := Option.some.inj h
      exact w_ireturn k259 ⟨rfl, rfl⟩
  have J66_0 : ∀ (l1 : Int32) (l3 : Int32) (Y : Sm), fn_259_J66 l1 l3 Y = some o → Wm 13 0 259 0 66 [(0, aR 48 0), (1, aI l1), (3, aI l3)] [] Y (Rt (some (aI o.1)) o.2) nX := by
    intro l1 l3 Y h
    unfold fn_259_J66 at h
    refine w_sg k259 2 (pc' := 68) (ls' := [(0, aR 48 0), (1, aI l1), (3, aI l3)]) (st' := [aI l1, aR 48 0]) (cs' := []) (fun _ => rfl) al0 ?_
    obtain ⟨v28, Y26, hv27, h⟩ := bd_some h
    refine w_cV1 k259 (sn_179 _ _ _ hv27) rfl (st := []) rfl ?_ (fun _ _ q => q.elim)
    refine w_sg k259 1 (pc' := 72) (ls' := [(0, aR 48 0), (1, aI l1), (3, aI l3)]) (st' := [aI (-1 : Int32), aI v28]) (cs' := []) (fun _ => rfl) al0 ?_
    refine w_icmp_eq k259 rfl (fun c => ?_) (fun c => ?_)
    · replace h := if_t c h
      refine w_sg k259 1 (pc' := 80) (ls' := [(0, aR 48 0), (1, aI l1), (3, aI l3)]) (st' := [aI (nI 0)]) (cs' := []) (fun _ => rfl) al0 ?_
      refine w_ls [(0, aR 48 0), (3, aI l3)] (lq_c rfl (lq_c rfl lq_n)) ?_
      exact J80_0 _ _ _ h
    · replace h := if_f c h
      refine w_sg k259 2 (pc' := 80) (ls' := [(0, aR 48 0), (1, aI l1), (3, aI l3)]) (st' := [aI (nI 1)]) (cs' := []) (fun _ => rfl) al0 ?_
      refine w_ls [(0, aR 48 0), (3, aI l3)] (lq_c rfl (lq_c rfl lq_n)) ?_
      exact J80_0 _ _ _ h
  have J26_0 : ∀ (l1 : Int32) (l2 : Int32) (t0 : Int32) (Y : Sm), fn_259_J26 l1 l2 t0 Y = some o → Wm 13 0 259 0 26 [(0, aR 48 0), (1, aI l1), (2, aI l2)] [aI t0, aR 48 0] Y (Rt (some (aI o.1)) o.2) nX := by
    intro l1 l2 t0 Y h
    unfold fn_259_J26 at h
    refine w_sg k259 1 (pc' := 27) (ls' := [(0, aR 48 0), (1, aI l1), (2, aI l2)]) (st' := [aI (nI 2), aI t0, aR 48 0]) (cs' := []) (fun _ => rfl) al0 ?_
    obtain ⟨v12, Y10, hv11, h⟩ := bd_some h
    refine w_cV1 k259 (sn_165 _ _ _ _ hv11) rfl (st := []) rfl ?_ (fun _ _ q => q.elim)
    refine w_if_ne k259 rfl (fun c => ?_) (fun c => ?_)
    · replace h := if_f c h
      refine w_sg k259 1 (pc' := 36) (ls' := [(0, aR 48 0), (1, aI l1), (2, aI l2)]) (st' := [aR 48 0]) (cs' := []) (fun _ => rfl) al0 ?_
      obtain ⟨_, Y13, hv14, h⟩ := bd_some h
      refine w_cV0 k259 (sn_176  _ _ hv14) rfl (st := []) rfl ?_ (fun _ _ q => q.elim)
      refine w_sg k259 2 (pc' := 41) (ls' := [(0, aR 48 0), (1, aI l1), (2, aI l2), (3, aI (nI 0))]) (st' := []) (cs' := []) (fun _ => rfl) al0 ?_
      obtain ⟨e37, hl35, hx36⟩ := exd_some h
      refine w_ls [(0, aR 48 0), (1, aI l1), (2, aI l2), (3, aI (nI 0))] (lq_c rfl (lq_c rfl (lq_c rfl (lq_c rfl lq_n)))) ?_
      refine L41_0 _ _ _ _ _ e37 hl35 (fun s9 hs9 => ?_) (fun r9 hr9 => ?_)
      · subst hs9
        replace h : fn_259_J66 l1 s9.1 s9.2 = some o := hx36
        refine w_ls [(0, aR 48 0), (1, aI l1), (3, aI s9.1)] (lq_c rfl (lq_c rfl (lq_c rfl lq_n))) ?_
        exact J66_0 _ _ _ h
      · subst hr9
        exact hx36
    · replace h := if_t c h
      refine w_sg k259 1 (pc' := 34) (ls' := [(0, aR 48 0), (1, aI l1), (2, aI l2)]) (st' := [aI (nI 0)]) (cs' := []) (fun _ => rfl) al0 ?_
      obtain rfl := Option.some.inj h
      exact w_ireturn k259 ⟨rfl, rfl⟩
  refine w_sg k259 2 (pc' := 2) (ls' := [(0, aR 48 0), (1, aI a1), (2, aI a2)]) (st' := [aI a2, aR 48 0]) (cs' := []) (fun _ => rfl) al0 ?_
  obtain ⟨v3, Y1, hv2, h⟩ := bd_some h
  refine w_cS1 k259 (sn_210 _ _ _ hv2) rfl (st := [aR 48 0]) rfl ?_ (fun _ _ q => q.elim)
  obtain ⟨v6, Y4, hv5, h⟩ := bd_some h
  refine w_cV1 k259 (sn_164 _ _ _ hv5) rfl (st := []) rfl ?_ (fun _ _ q => q.elim)
  refine w_if_eq k259 rfl (fun c => ?_) (fun c => ?_)
  · replace h := if_t c h
    refine w_sg k259 1 (pc' := 34) (ls' := [(0, aR 48 0), (1, aI a1), (2, aI a2)]) (st' := [aI (nI 0)]) (cs' := []) (fun _ => rfl) al0 ?_
    obtain rfl := Option.some.inj h
    exact w_ireturn k259 ⟨rfl, rfl⟩
  · replace h := if_f c h
    refine w_sg k259 3 (pc' := 14) (ls' := [(0, aR 48 0), (1, aI a1), (2, aI a2)]) (st' := [aI a1, aR 48 0, aR 48 0]) (cs' := []) (fun _ => rfl) al0 ?_
    obtain ⟨v9, Y7, hv8, h⟩ := bd_some h
    refine w_cV1 k259 (sn_179 _ _ _ hv8) rfl (st := [aR 48 0]) rfl ?_ (fun _ _ q => q.elim)
    refine w_sg k259 1 (pc' := 18) (ls' := [(0, aR 48 0), (1, aI a1), (2, aI a2)]) (st' := [aI (-1 : Int32), aI v9, aR 48 0]) (cs' := []) (fun _ => rfl) al0 ?_
    refine w_icmp_eq k259 rfl (fun c => ?_) (fun c => ?_)
    · replace h := if_t c h
      refine w_sg k259 1 (pc' := 26) (ls' := [(0, aR 48 0), (1, aI a1), (2, aI a2)]) (st' := [aI (nI 0), aR 48 0]) (cs' := []) (fun _ => rfl) al0 ?_
      refine w_ls [(0, aR 48 0), (1, aI a1), (2, aI a2)] (lq_c rfl (lq_c rfl (lq_c rfl lq_n))) ?_
      exact J26_0 _ _ _ _ h
    · replace h := if_f c h
      refine w_sg k259 2 (pc' := 26) (ls' := [(0, aR 48 0), (1, aI a1), (2, aI a2)]) (st' := [aI (nI 1), aR 48 0]) (cs' := []) (fun _ => rfl) al0 ?_
      refine w_ls [(0, aR 48 0), (1, aI a1), (2, aI a2)] (lq_c rfl (lq_c rfl (lq_c rfl lq_n))) ?_
      exact J26_0 _ _ _ _ h
set_option maxRecDepth 20000 in
set_option maxHeartbeats 4000000 in
/-- BallotBusModel.wouldAnswer -/
theorem sn_260 (a1 : Int32) (a2 : Int32) {Y : Sm} (v : Int32) (Z : Sm) (h : fn_260 a1 a2 Y = some (v, Z)) : Mt 14 0 260 [aR 48 0, aI a1, aI a2] Y (Rt (some (aI v)) Z) nX := by
  refine Mt_of [(0, aR 48 0), (1, aI a1), (2, aI a2)] ?_
  generalize ho : (v, Z) = o at h
  have hv9 : v = o.1 := congrArg Prod.fst ho
  have hZ9 : Z = o.2 := congrArg Prod.snd ho
  clear ho
  subst hv9 hZ9
  unfold fn_260 at h
  refine w_sg k260 1 (pc' := 1) (ls' := [(0, aR 48 0), (1, aI a1), (2, aI a2)]) (st' := [aR 48 0]) (cs' := []) (fun _ => rfl) al0 ?_
  obtain ⟨_, Y1, hv2, h⟩ := bd_some h
  refine w_cV0 k260 (sn_176  _ _ hv2) rfl (st := []) rfl ?_ (fun _ _ q => q.elim)
  refine w_sg k260 4 (pc' := 8) (ls' := [(0, aR 48 0), (1, aI a1), (2, aI a2)]) (st' := [aI a2, aI a1, aR 48 0, aR 48 0]) (cs' := []) (fun _ => rfl) al0 ?_
  obtain ⟨v5, Y3, hv4, h⟩ := bd_some h
  refine w_cV1 k260 (sn_207 _ _ _ _ hv4) rfl (st := [aR 48 0]) rfl ?_ (fun _ _ q => q.elim)
  obtain ⟨v8, Y6, hv7, h⟩ := bd_some h
  refine w_cV1 k260 (sn_177 _ _ _ hv7) rfl (st := []) rfl ?_ (fun _ _ q => q.elim)
  obtain rfl := Option.some.inj h
  exact w_ireturn k260 ⟨rfl, rfl⟩
set_option maxRecDepth 20000 in
set_option maxHeartbeats 4000000 in
/-- BallotBusModel.answersIn -/
theorem sn_261 (a1 : Int32) (a2 : Int32) {Y : Sm} (v : Int32) (Z : Sm) (h : fn_261 a1 a2 Y = some (v, Z)) : Mt 15 0 261 [aR 48 0, aI a1, aI a2] Y (Rt (some (aI v)) Z) nX := by
  refine Mt_of [(0, aR 48 0), (1, aI a1), (2, aI a2)] ?_
  generalize ho : (v, Z) = o at h
  have hv9 : v = o.1 := congrArg Prod.fst ho
  have hZ9 : Z = o.2 := congrArg Prod.snd ho
  clear ho
  subst hv9 hZ9
  unfold fn_261 at h
  have J19_0 : ∀ (l1 : Int32) (l2 : Int32) (t0 : Int32) (Y : Sm), fn_261_J19 l1 l2 t0 Y = some o → Wm 15 0 261 0 19 [(0, aR 48 0), (1, aI l1), (2, aI l2)] [aI t0, aR 48 0] Y (Rt (some (aI o.1)) o.2) nX := by
    intro l1 l2 t0 Y h
    unfold fn_261_J19 at h
    obtain ⟨v3, Y1, hv2, h⟩ := bd_some h
    refine w_cV1 k261 (sn_164 _ _ _ hv2) rfl (st := []) rfl ?_ (fun _ _ q => q.elim)
    refine w_if_eq k261 rfl (fun c => ?_) (fun c => ?_)
    · replace h := if_t c h
      refine w_sg k261 1 (pc' := 38) (ls' := [(0, aR 48 0), (1, aI l1), (2, aI l2)]) (st' := [aI (nI 0)]) (cs' := []) (fun _ => rfl) al0 ?_
      obtain rfl := Option.some.inj h
      exact w_ireturn k261 ⟨rfl, rfl⟩
    · replace h := if_f c h
      refine w_sg k261 2 (pc' := 27) (ls' := [(0, aR 48 0), (1, aI l1), (2, aI l2)]) (st' := [aI l1, aR 48 0]) (cs' := []) (fun _ => rfl) al0 ?_
      obtain ⟨v6, Y4, hv5, h⟩ := bd_some h
      refine w_cS1 k261 (sn_210 _ _ _ hv5) rfl (st := [aR 48 0]) rfl ?_ (fun _ _ q => q.elim)
      refine w_sg k261 1 (pc' := 31) (ls' := [(0, aR 48 0), (1, aI l1), (2, aI l2)]) (st' := [aI (nI 2), aI v6, aR 48 0]) (cs' := []) (fun _ => rfl) al0 ?_
      obtain ⟨v9, Y7, hv8, h⟩ := bd_some h
      refine w_cV1 k261 (sn_165 _ _ _ _ hv8) rfl (st := []) rfl ?_ (fun _ _ q => q.elim)
      refine w_if_ne k261 rfl (fun c => ?_) (fun c => ?_)
      · replace h := if_f c h
        refine w_sg k261 3 (pc' := 42) (ls' := [(0, aR 48 0), (1, aI l1), (2, aI l2)]) (st' := [aI l2, aI l1, aR 48 0]) (cs' := []) (fun _ => rfl) al0 ?_
        obtain ⟨v12, Y10, hv11, h⟩ := bd_some h
        refine w_cV1 k261 (sn_260 _ _ _ _ hv11) rfl (st := []) rfl ?_ (fun _ _ q => q.elim)
        obtain rfl := Option.some.inj h
        exact w_ireturn k261 ⟨rfl, rfl⟩
      · replace h := if_t c h
        refine w_sg k261 1 (pc' := 38) (ls' := [(0, aR 48 0), (1, aI l1), (2, aI l2)]) (st' := [aI (nI 0)]) (cs' := []) (fun _ => rfl) al0 ?_
        obtain rfl := Option.some.inj h
        exact w_ireturn k261 ⟨rfl, rfl⟩
  have J14_0 : ∀ (l1 : Int32) (l2 : Int32) (Y : Sm), fn_261_J14 l1 l2 Y = some o → Wm 15 0 261 0 14 [(0, aR 48 0), (1, aI l1), (2, aI l2)] [aR 48 0] Y (Rt (some (aI o.1)) o.2) nX := by
    intro l1 l2 Y h
    unfold fn_261_J14 at h
    refine w_sg k261 2 (pc' := 19) (ls' := [(0, aR 48 0), (1, aI l1), (2, aI l2)]) (st' := [aI (nI 1), aR 48 0]) (cs' := []) (fun _ => rfl) al0 ?_
    refine w_ls [(0, aR 48 0), (1, aI l1), (2, aI l2)] (lq_c rfl (lq_c rfl (lq_c rfl lq_n))) ?_
    exact J19_0 _ _ _ _ h
  refine w_sg k261 3 (pc' := 3) (ls' := [(0, aR 48 0), (1, aI a1), (2, aI a2)]) (st' := [aI (-1 : Int32), aI a2, aR 48 0]) (cs' := []) (fun _ => rfl) al0 ?_
  refine w_icmp_eq k261 rfl (fun c => ?_) (fun c => ?_)
  · replace h := if_t c h
    refine w_ls [(0, aR 48 0), (1, aI a1), (2, aI a2)] (lq_c rfl (lq_c rfl (lq_c rfl lq_n))) ?_
    exact J14_0 _ _ _ h
  · replace h := if_f c h
    refine w_sg k261 2 (pc' := 8) (ls' := [(0, aR 48 0), (1, aI a1), (2, aI a2)]) (st' := [aI a2, aR 48 0, aR 48 0]) (cs' := []) (fun _ => rfl) al0 ?_
    obtain ⟨v15, Y13, hv14, h⟩ := bd_some h
    refine w_cV1 k261 (sn_208 _ _ _ hv14) rfl (st := [aR 48 0]) rfl ?_ (fun _ _ q => q.elim)
    refine w_if_eq k261 rfl (fun c => ?_) (fun c => ?_)
    · replace h := if_t c h
      refine w_sg k261 1 (pc' := 19) (ls' := [(0, aR 48 0), (1, aI a1), (2, aI a2)]) (st' := [aI (nI 0), aR 48 0]) (cs' := []) (fun _ => rfl) al0 ?_
      refine w_ls [(0, aR 48 0), (1, aI a1), (2, aI a2)] (lq_c rfl (lq_c rfl (lq_c rfl lq_n))) ?_
      exact J19_0 _ _ _ _ h
    · replace h := if_f c h
      refine w_ls [(0, aR 48 0), (1, aI a1), (2, aI a2)] (lq_c rfl (lq_c rfl (lq_c rfl lq_n))) ?_
      exact J14_0 _ _ _ h
set_option maxRecDepth 20000 in
set_option maxHeartbeats 4000000 in
/-- BallotBusModel.vetoBrings -/
theorem sn_262 (a1 : Int32) (a2 : Int32) (a3 : Int32) {Y : Sm} (v : Int32) (Z : Sm) (h : fn_262 a1 a2 a3 Y = some (v, Z)) : Mt 14 0 262 [aR 48 0, aI a1, aI a2, aI a3] Y (Rt (some (aI v)) Z) nX := by
  refine Mt_of [(0, aR 48 0), (1, aI a1), (2, aI a2), (3, aI a3)] ?_
  generalize ho : (v, Z) = o at h
  have hv9 : v = o.1 := congrArg Prod.fst ho
  have hZ9 : Z = o.2 := congrArg Prod.snd ho
  clear ho
  subst hv9 hZ9
  unfold fn_262 at h
  refine w_sg k262 3 (pc' := 3) (ls' := [(0, aR 48 0), (1, aI a1), (2, aI a2), (3, aI a3)]) (st' := [aI a2, aI a1, aR 48 0]) (cs' := []) (fun _ => rfl) al0 ?_
  obtain ⟨v3, Y1, hv2, h⟩ := bd_some h
  refine w_cV1 k262 (sn_218 _ _ _ _ hv2) rfl (st := []) rfl ?_ (fun _ _ q => q.elim)
  refine w_if_ne k262 rfl (fun c => ?_) (fun c => ?_)
  · replace h := if_f c h
    refine w_sg k262 1 (pc' := 12) (ls' := [(0, aR 48 0), (1, aI a1), (2, aI a2), (3, aI a3)]) (st' := [aR 48 0]) (cs' := []) (fun _ => rfl) al0 ?_
    obtain ⟨_, Y4, hv5, h⟩ := bd_some h
    refine w_cV0 k262 (sn_176  _ _ hv5) rfl (st := []) rfl ?_ (fun _ _ q => q.elim)
    refine w_sg k262 3 (pc' := 18) (ls' := [(0, aR 48 0), (1, aI a1), (2, aI a2), (3, aI a3)]) (st' := [aI a2, aI a1, aR 48 0]) (cs' := []) (fun _ => rfl) al0 ?_
    obtain ⟨v8, Y6, hv7, h⟩ := bd_some h
    refine w_cV1 k262 (sn_219 _ _ _ _ hv7) rfl (st := []) rfl ?_ (fun _ _ q => q.elim)
    refine w_sg k262 1 (pc' := 23) (ls' := [(0, aR 48 0), (1, aI a1), (2, aI a2), (3, aI a3), (4, aI v8)]) (st' := []) (cs' := []) (fun _ => rfl) al0 ?_
    refine w_sg k262 4 (pc' := 27) (ls' := [(0, aR 48 0), (1, aI a1), (2, aI a2), (3, aI a3), (4, aI v8)]) (st' := [aI a1, aI a3, aR 48 0, aR 48 0]) (cs' := []) (fun _ => rfl) al0 ?_
    obtain ⟨v11, Y9, hv10, h⟩ := bd_some h
    refine w_cV1 k262 (sn_207 _ _ _ _ hv10) rfl (st := [aR 48 0]) rfl ?_ (fun _ _ q => q.elim)
    obtain ⟨v14, Y12, hv13, h⟩ := bd_some h
    refine w_cV1 k262 (sn_177 _ _ _ hv13) rfl (st := []) rfl ?_ (fun _ _ q => q.elim)
    obtain rfl := Option.some.inj h
    exact w_ireturn k262 ⟨rfl, rfl⟩
  · replace h := if_t c h
    refine w_sg k262 1 (pc' := 10) (ls' := [(0, aR 48 0), (1, aI a1), (2, aI a2), (3, aI a3)]) (st' := [aI (-1 : Int32)]) (cs' := []) (fun _ => rfl) al0 ?_
    obtain rfl := Option.some.inj h
    exact w_ireturn k262 ⟨rfl, rfl⟩
