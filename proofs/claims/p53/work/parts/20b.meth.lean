/-! the code of the methods does what their functions say (printed by wip/whole/gen20.py) -/
set_option maxRecDepth 20000 in
set_option maxHeartbeats 4000000 in
/-- BallotBus$SetupReader.readRequest -/
theorem sn_66 {Y : Sm} (v : Int32) (Z : Sm) (h : fn_66 Y = some (v, Z)) : Mt 8 0 66 [aR 3 0] Y (Rt (some (aI v)) Z) nX := by
  refine Mt_of [(0, aR 3 0)] ?_
  generalize ho : (v, Z) = o at h
  have hv9 : v = o.1 := congrArg Prod.fst ho
  have hZ9 : Z = o.2 := congrArg Prod.snd ho
  clear ho
  subst hv9 hZ9
  unfold fn_66 at h
  refine w_sg k66 5 (pc' := 12) (ls' := [(0, aR 3 0)]) (st' := [aI (nI 40), aI (gI Y.1 12 (Y.2 2) 1)]) (cs' := []) (fun _ => rfl) al0 ?_
  refine w_icmp_lt k66 rfl (fun c => ?_) (fun c => ?_)
  · replace h := if_t c h
    refine w_sg k66 2 (pc' := 25) (ls' := [(0, aR 3 0)]) (st' := [aR 4 0]) (cs' := []) (fun _ => rfl) al0 ?_
    obtain ⟨_, Y1, hv2, h⟩ := bd_some h
    refine w_cV0 k66 (sn_95  _ _ hv2) rfl (st := []) rfl ?_ (fun _ _ q => q.elim)
    refine w_sg k66 2 (pc' := 32) (ls' := [(0, aR 3 0)]) (st' := [aR 4 0]) (cs' := []) (fun _ => rfl) al0 ?_
    obtain ⟨v5, Y3, hv4, h⟩ := bd_some h
    refine w_cV1 k66 (sn_98  _ _ hv4) rfl (st := []) rfl ?_ (fun _ _ q => q.elim)
    refine w_if_ne k66 rfl (fun c => ?_) (fun c => ?_)
    · replace h := if_f c h
      refine w_sg k66 4 (pc' := 52) (ls' := [(0, aR 3 0)]) (st' := [aR 4 0, aR 5 (Y3.2 2)]) (cs' := []) (fun _ => rfl) al0 ?_
      obtain ⟨v8, Y6, hv7, h⟩ := bd_some h
      refine w_cV1 k66 (sn_100  _ _ hv7) rfl (st := [aR 5 (Y3.2 2)]) rfl ?_ (fun _ _ q => q.elim)
      obtain ⟨v11, Y9, hv10, h⟩ := bd_some h
      refine w_cV1 k66 (sn_57 _ _ _ _ hv10) rfl (st := []) rfl ?_ (fun _ _ q => q.elim)
      refine w_sg k66 1 (pc' := 59) (ls' := [(0, aR 3 0), (1, aI v11)]) (st' := []) (cs' := []) (fun _ => rfl) al0 ?_
      refine w_sg k66 2 (pc' := 61) (ls' := [(0, aR 3 0), (1, aI v11)]) (st' := [aI (-1 : Int32), aI v11]) (cs' := []) (fun _ => rfl) al0 ?_
      refine w_icmp_ne k66 rfl (fun c => ?_) (fun c => ?_)
      · replace h := if_f c h
        refine w_sg k66 2 (pc' := 74) (ls' := [(0, aR 3 0), (1, aI v11)]) (st' := [aR 4 0]) (cs' := []) (fun _ => rfl) al0 ?_
        obtain ⟨_, Y12, hv13, h⟩ := bd_some h
        refine w_cV0 k66 (sn_95  _ _ hv13) rfl (st := []) rfl ?_ (fun _ _ q => q.elim)
        refine w_sg k66 2 (pc' := 81) (ls' := [(0, aR 3 0), (1, aI v11)]) (st' := [aR 4 0]) (cs' := []) (fun _ => rfl) al0 ?_
        obtain ⟨v16, Y14, hv15, h⟩ := bd_some h
        refine w_cV1 k66 (sn_98  _ _ hv15) rfl (st := []) rfl ?_ (fun _ _ q => q.elim)
        refine w_if_ne k66 rfl (fun c => ?_) (fun c => ?_)
        · replace h := if_f c h
          refine w_sg k66 4 (pc' := 101) (ls' := [(0, aR 3 0), (1, aI v11)]) (st' := [aR 4 0, aR 5 (Y14.2 2)]) (cs' := []) (fun _ => rfl) al0 ?_
          obtain ⟨v19, Y17, hv18, h⟩ := bd_some h
          refine w_cV1 k66 (sn_100  _ _ hv18) rfl (st := [aR 5 (Y14.2 2)]) rfl ?_ (fun _ _ q => q.elim)
          obtain ⟨v22, Y20, hv21, h⟩ := bd_some h
          refine w_cV1 k66 (sn_56 _ _ _ _ hv21) rfl (st := []) rfl ?_ (fun _ _ q => q.elim)
          refine w_sg k66 1 (pc' := 108) (ls' := [(0, aR 3 0), (1, aI v11), (2, aI v22)]) (st' := []) (cs' := []) (fun _ => rfl) al0 ?_
          refine w_sg k66 2 (pc' := 110) (ls' := [(0, aR 3 0), (1, aI v11), (2, aI v22)]) (st' := [aI (-1 : Int32), aI v22]) (cs' := []) (fun _ => rfl) al0 ?_
          refine w_icmp_ne k66 rfl (fun c => ?_) (fun c => ?_)
          · replace h := if_f c h
            refine w_sg k66 2 (pc' := 123) (ls' := [(0, aR 3 0), (1, aI v11), (2, aI v22)]) (st' := [aR 4 0]) (cs' := []) (fun _ => rfl) al0 ?_
            obtain ⟨_, Y23, hv24, h⟩ := bd_some h
            refine w_cV0 k66 (sn_95  _ _ hv24) rfl (st := []) rfl ?_ (fun _ _ q => q.elim)
            refine w_sg k66 3 (pc' := 130) (ls' := [(0, aR 3 0), (1, aI v11), (2, aI v22)]) (st' := [aI (nI 20), aI (nI 1), aR 3 0]) (cs' := []) (fun _ => rfl) al0 ?_
            obtain ⟨v27, Y25, hv26, h⟩ := bd_some h
            refine w_cV1 k66 (sn_69 _ _ _ _ hv26) rfl (st := []) rfl ?_ (fun _ _ q => q.elim)
            refine w_sg k66 1 (pc' := 134) (ls' := [(0, aR 3 0), (1, aI v11), (2, aI v22), (3, aI v27)]) (st' := []) (cs' := []) (fun _ => rfl) al0 ?_
            refine w_sg k66 8 (pc' := 152) (ls' := [(0, aR 3 0), (1, aI v11), (2, aI v22), (3, aI v27)]) (st' := [aI v11, aI (gI Y25.1 12 (Y25.2 2) 1), aR 12 (Y25.2 2)]) (cs' := []) (fun _ => rfl) al0 ?_
            refine w_sg k66 3 (pc' := 155) (ls' := [(0, aR 3 0), (1, aI v11), (2, aI v22), (3, aI v27)]) (st' := [aI (nI 0), aI v27, aI v22, aI v11, aI (gI Y25.1 12 (Y25.2 2) 1), aR 12 (Y25.2 2)]) (cs' := []) (fun _ => rfl) al0 ?_
            obtain ⟨_, Y28, hv29, h⟩ := bd_some h
            refine w_cV0 k66 (sn_36 _ _ _ _ _ _ _ _ hv29) rfl (st := []) rfl ?_ (fun _ _ q => q.elim)
            refine w_sg k66 2 (pc' := 162) (ls' := [(0, aR 3 0), (1, aI v11), (2, aI v22), (3, aI v27)]) (st' := [aI (gI Y28.1 3 0 3)]) (cs' := []) (fun _ => rfl) al0 ?_
            refine w_if_ne k66 rfl (fun c => ?_) (fun c => ?_)
            · replace h := if_f c h
              refine w_sg k66 1 (pc' := 170) (ls' := [(0, aR 3 0), (1, aI v11), (2, aI v22), (3, aI v27)]) (st' := [aI (nI 0)]) (cs' := []) (fun _ => rfl) al0 ?_
              obtain rfl := Option.some.inj h
              exact w_zreturn k66 (Or.inl rfl) ⟨rfl, rfl⟩
            · replace h := if_t c h
              refine w_sg k66 2 (pc' := 170) (ls' := [(0, aR 3 0), (1, aI v11), (2, aI v22), (3, aI v27)]) (st' := [aI (nI 1)]) (cs' := []) (fun _ => rfl) al0 ?_
              obtain rfl := Option.some.inj h
              exact w_zreturn k66 (Or.inr rfl) ⟨rfl, rfl⟩
          · replace h := if_t c h
            refine w_sg k66 2 (pc' := 115) (ls' := [(0, aR 3 0), (1, aI v11), (2, aI v22)]) (st' := [aI (nI 3), aR 3 0]) (cs' := []) (fun _ => rfl) al0 ?_
            obtain ⟨v32, Y30, hv31, h⟩ := bd_some h
            refine w_cV1 k66 (sn_60 _ _ _ hv31) rfl (st := []) rfl ?_ (fun _ _ q => q.elim)
            obtain ⟨hc33, h⟩ := ck_some h
            obtain rfl := Option.some.inj h
            exact w_zreturn k66 (bz_or hc33) ⟨rfl, rfl⟩
        · replace h := if_t c h
          refine w_sg k66 2 (pc' := 89) (ls' := [(0, aR 3 0), (1, aI v11)]) (st' := [aI (nI 1), aR 3 0]) (cs' := []) (fun _ => rfl) al0 ?_
          obtain ⟨v36, Y34, hv35, h⟩ := bd_some h
          refine w_cV1 k66 (sn_60 _ _ _ hv35) rfl (st := []) rfl ?_ (fun _ _ q => q.elim)
          obtain ⟨hc37, h⟩ := ck_some h
          obtain rfl := Option.some.inj h
          exact w_zreturn k66 (bz_or hc37) ⟨rfl, rfl⟩
      · replace h := if_t c h
        refine w_sg k66 2 (pc' := 66) (ls' := [(0, aR 3 0), (1, aI v11)]) (st' := [aI (nI 3), aR 3 0]) (cs' := []) (fun _ => rfl) al0 ?_
        obtain ⟨v40, Y38, hv39, h⟩ := bd_some h
        refine w_cV1 k66 (sn_60 _ _ _ hv39) rfl (st := []) rfl ?_ (fun _ _ q => q.elim)
        obtain ⟨hc41, h⟩ := ck_some h
        obtain rfl := Option.some.inj h
        exact w_zreturn k66 (bz_or hc41) ⟨rfl, rfl⟩
    · replace h := if_t c h
      refine w_sg k66 2 (pc' := 40) (ls' := [(0, aR 3 0)]) (st' := [aI (nI 1), aR 3 0]) (cs' := []) (fun _ => rfl) al0 ?_
      obtain ⟨v44, Y42, hv43, h⟩ := bd_some h
      refine w_cV1 k66 (sn_60 _ _ _ hv43) rfl (st := []) rfl ?_ (fun _ _ q => q.elim)
      obtain ⟨hc45, h⟩ := ck_some h
      obtain rfl := Option.some.inj h
      exact w_zreturn k66 (bz_or hc45) ⟨rfl, rfl⟩
  · replace h := if_f c h
    refine w_sg k66 2 (pc' := 17) (ls' := [(0, aR 3 0)]) (st' := [aI (nI 4), aR 3 0]) (cs' := []) (fun _ => rfl) al0 ?_
    obtain ⟨v48, Y46, hv47, h⟩ := bd_some h
    refine w_cV1 k66 (sn_60 _ _ _ hv47) rfl (st := []) rfl ?_ (fun _ _ q => q.elim)
    obtain ⟨hc49, h⟩ := ck_some h
    obtain rfl := Option.some.inj h
    exact w_zreturn k66 (bz_or hc49) ⟨rfl, rfl⟩
set_option maxRecDepth 20000 in
set_option maxHeartbeats 4000000 in
/-- BallotBus$Setup.addAsker -/
theorem sn_55 (i0 : Nat) (a1 : Int64) (a2 : Int32) (a3 : Int32) {Y : Sm} (v : Unit) (Z : Sm) (h : fn_55 i0 a1 a2 a3 Y = some (v, Z)) : Mt 4 0 55 [aR 5 i0, aJ a1, aI a2, aI a3] Y (Rt none Z) nX := by
  refine Mt_of [(0, aR 5 i0), (1, aJ a1), (3, aI a2), (4, aI a3)] ?_
  generalize ho : (v, Z) = o at h
  have hv9 : v = o.1 := congrArg Prod.fst ho
  have hZ9 : Z = o.2 := congrArg Prod.snd ho
  clear ho
  subst hv9 hZ9
  unfold fn_55 at h
  refine w_sg k55 3 (pc' := 6) (ls' := [(0, aR 5 i0), (1, aJ a1), (3, aI a2), (4, aI a3)]) (st' := [aI (nI 8), aI (gI Y.1 5 i0 3)]) (cs' := []) (fun _ => rfl) al0 ?_
  refine w_icmp_ge k55 rfl (fun c => ?_) (fun c => ?_)
  · replace h := if_t c h
    obtain rfl := Option.some.inj h
    exact w_return k55 ⟨rfl, rfl⟩
  · replace h := if_f c h
    obtain ⟨hc1, h⟩ := ck_some h
    refine w_sw k55 6 (Z := (sJ Y 8 i0 (ix (gI Y.1 5 i0 3)) a1)) (pc' := 19) (ls' := [(0, aR 5 i0), (1, aJ a1), (3, aI a2), (4, aI a3)]) (st' := []) (cs' := [vp_in (gI Y.1 5 i0 3) 8, allw 8 i0]) (fun _ => rfl) rfl (al2 (vin hc1) (al1 rfl)) ?_
    replace h := wr_some h
    generalize (sJ Y 8 i0 (ix (gI Y.1 5 i0 3)) a1) = Y2 at h ⊢
    obtain ⟨hc3, h⟩ := ck_some h
    refine w_sw k55 6 (Z := (sI Y2 9 i0 (ix (gI Y2.1 5 i0 3)) a2)) (pc' := 29) (ls' := [(0, aR 5 i0), (1, aJ a1), (3, aI a2), (4, aI a3)]) (st' := []) (cs' := [vp_in (gI Y2.1 5 i0 3) 8, allw 9 i0]) (fun _ => rfl) rfl (al2 (vin hc3) (al1 rfl)) ?_
    replace h := wr_some h
    generalize (sI Y2 9 i0 (ix (gI Y2.1 5 i0 3)) a2) = Y4 at h ⊢
    obtain ⟨hc5, h⟩ := ck_some h
    refine w_sw k55 6 (Z := (sI Y4 10 i0 (ix (gI Y4.1 5 i0 3)) a3)) (pc' := 40) (ls' := [(0, aR 5 i0), (1, aJ a1), (3, aI a2), (4, aI a3)]) (st' := []) (cs' := [vp_in (gI Y4.1 5 i0 3) 8, allw 10 i0]) (fun _ => rfl) rfl (al2 (vin hc5) (al1 rfl)) ?_
    replace h := wr_some h
    generalize (sI Y4 10 i0 (ix (gI Y4.1 5 i0 3)) a3) = Y6 at h ⊢
    refine w_sw k55 6 (Z := (sI Y6 5 i0 3 ((gI Y6.1 5 i0 3) + (nI 1)))) (pc' := 50) (ls' := [(0, aR 5 i0), (1, aJ a1), (3, aI a2), (4, aI a3)]) (st' := []) (cs' := [allw 5 i0]) (fun _ => rfl) rfl (al1 rfl) ?_
    replace h := wr_some h
    generalize (sI Y6 5 i0 3 ((gI Y6.1 5 i0 3) + (nI 1))) = Y7 at h ⊢
    obtain rfl := Option.some.inj h
    exact w_return k55 ⟨rfl, rfl⟩
set_option maxRecDepth 20000 in
set_option maxHeartbeats 4000000 in
/-- BallotBus$SetupReader.readAsker -/
theorem sn_65 {Y : Sm} (v : Int32) (Z : Sm) (h : fn_65 Y = some (v, Z)) : Mt 8 0 65 [aR 3 0] Y (Rt (some (aI v)) Z) nX := by
  refine Mt_of [(0, aR 3 0)] ?_
  generalize ho : (v, Z) = o at h
  have hv9 : v = o.1 := congrArg Prod.fst ho
  have hZ9 : Z = o.2 := congrArg Prod.snd ho
  clear ho
  subst hv9 hZ9
  unfold fn_65 at h
  have J146_0 : ∀ (l1 : Int64) (l3 : Int32) (l4 : Int32) (Y : Sm), fn_65_J146 l1 l3 l4 Y = some o → Wm 8 0 65 0 146 [(0, aR 3 0), (1, aJ l1), (3, aI l3), (4, aI l4)] [] Y (Rt (some (aI o.1)) o.2) nX := by
    intro l1 l3 l4 Y h
    unfold fn_65_J146 at h
    refine w_sg k65 5 (pc' := 154) (ls' := [(0, aR 3 0), (1, aJ l1), (3, aI l3), (4, aI l4)]) (st' := [aI l4, aI l3, aJ l1, aR 5 (Y.2 2)]) (cs' := []) (fun _ => rfl) al0 ?_
    obtain ⟨_, Y22, hv23, h⟩ := bd_some h
    refine w_cV0 k65 (sn_55 _ _ _ _ _ _ hv23) rfl (st := []) rfl ?_ (fun _ _ q => q.elim)
    refine w_sg k65 2 (pc' := 161) (ls' := [(0, aR 3 0), (1, aJ l1), (3, aI l3), (4, aI l4)]) (st' := [aI (gI Y22.1 3 0 3)]) (cs' := []) (fun _ => rfl) al0 ?_
    refine w_if_ne k65 rfl (fun c => ?_) (fun c => ?_)
    · replace h := if_f c h
      refine w_sg k65 1 (pc' := 169) (ls' := [(0, aR 3 0), (1, aJ l1), (3, aI l3), (4, aI l4)]) (st' := [aI (nI 0)]) (cs' := []) (fun _ => rfl) al0 ?_
      obtain rfl := Option.some.inj h
      exact w_zreturn k65 (Or.inl rfl) ⟨rfl, rfl⟩
    · replace h := if_t c h
      refine w_sg k65 2 (pc' := 169) (ls' := [(0, aR 3 0), (1, aJ l1), (3, aI l3), (4, aI l4)]) (st' := [aI (nI 1)]) (cs' := []) (fun _ => rfl) al0 ?_
      obtain rfl := Option.some.inj h
      exact w_zreturn k65 (Or.inr rfl) ⟨rfl, rfl⟩
  refine w_sg k65 4 (pc' := 9) (ls' := [(0, aR 3 0)]) (st' := [aI (nI 8), aI (gI Y.1 5 (Y.2 2) 3)]) (cs' := []) (fun _ => rfl) al0 ?_
  refine w_icmp_lt k65 rfl (fun c => ?_) (fun c => ?_)
  · replace h := if_t c h
    refine w_sg k65 2 (pc' := 22) (ls' := [(0, aR 3 0)]) (st' := [aR 4 0]) (cs' := []) (fun _ => rfl) al0 ?_
    obtain ⟨_, Y1, hv2, h⟩ := bd_some h
    refine w_cV0 k65 (sn_95  _ _ hv2) rfl (st := []) rfl ?_ (fun _ _ q => q.elim)
    refine w_sg k65 2 (pc' := 29) (ls' := [(0, aR 3 0)]) (st' := [aR 4 0]) (cs' := []) (fun _ => rfl) al0 ?_
    obtain ⟨v5, Y3, hv4, h⟩ := bd_some h
    refine w_cV1 k65 (sn_98  _ _ hv4) rfl (st := []) rfl ?_ (fun _ _ q => q.elim)
    refine w_if_ne k65 rfl (fun c => ?_) (fun c => ?_)
    · replace h := if_f c h
      refine w_sg k65 2 (pc' := 45) (ls' := [(0, aR 3 0)]) (st' := [aR 4 0]) (cs' := []) (fun _ => rfl) al0 ?_
      obtain ⟨v8, Y6, hv7, h⟩ := bd_some h
      refine w_cV1 k65 (sn_100  _ _ hv7) rfl (st := []) rfl ?_ (fun _ _ q => q.elim)
      refine w_sg k65 1 (pc' := 49) (ls' := [(0, aR 3 0), (1, aJ v8)]) (st' := []) (cs' := []) (fun _ => rfl) al0 ?_
      refine w_sg k65 3 (pc' := 54) (ls' := [(0, aR 3 0), (1, aJ v8)]) (st' := [aJ v8, aR 5 (Y6.2 2)]) (cs' := []) (fun _ => rfl) al0 ?_
      obtain ⟨v11, Y9, hv10, h⟩ := bd_some h
      refine w_cV1 k65 (sn_57 _ _ _ _ hv10) rfl (st := []) rfl ?_ (fun _ _ q => q.elim)
      refine w_sg k65 1 (pc' := 58) (ls' := [(0, aR 3 0), (1, aJ v8)]) (st' := [aI (-1 : Int32), aI v11]) (cs' := []) (fun _ => rfl) al0 ?_
      refine w_icmp_eq k65 rfl (fun c => ?_) (fun c => ?_)
      · replace h := if_t c h
        refine w_sg k65 2 (pc' := 71) (ls' := [(0, aR 3 0), (1, aJ v8)]) (st' := [aR 4 0]) (cs' := []) (fun _ => rfl) al0 ?_
        obtain ⟨_, Y12, hv13, h⟩ := bd_some h
        refine w_cV0 k65 (sn_95  _ _ hv13) rfl (st := []) rfl ?_ (fun _ _ q => q.elim)
        refine w_sg k65 3 (pc' := 80) (ls' := [(0, aR 3 0), (1, aJ v8)]) (st' := [aS 5, aR 4 0]) (cs' := []) (fun _ => rfl) al0 ?_
        obtain ⟨v16, Y14, hv15, h⟩ := bd_some h
        refine w_cV1 k65 (sn_97 _ _ _ hv15) rfl (st := []) rfl ?_ (fun _ _ q => q.elim)
        refine w_if_ne k65 rfl (fun c => ?_) (fun c => ?_)
        · replace h := if_f c h
          refine w_sg k65 2 (pc' := 96) (ls' := [(0, aR 3 0), (1, aJ v8)]) (st' := [aR 4 0]) (cs' := []) (fun _ => rfl) al0 ?_
          obtain ⟨_, Y17, hv18, h⟩ := bd_some h
          refine w_cV0 k65 (sn_95  _ _ hv18) rfl (st := []) rfl ?_ (fun _ _ q => q.elim)
          refine w_sg k65 3 (pc' := 104) (ls' := [(0, aR 3 0), (1, aJ v8)]) (st' := [aI (nI 999), aI (nI 0), aR 3 0]) (cs' := []) (fun _ => rfl) al0 ?_
          obtain ⟨v21, Y19, hv20, h⟩ := bd_some h
          refine w_cV1 k65 (sn_69 _ _ _ _ hv20) rfl (st := []) rfl ?_ (fun _ _ q => q.elim)
          refine w_sg k65 1 (pc' := 108) (ls' := [(0, aR 3 0), (1, aJ v8), (3, aI v21)]) (st' := []) (cs' := []) (fun _ => rfl) al0 ?_
          refine w_sg k65 2 (pc' := 111) (ls' := [(0, aR 3 0), (1, aJ v8), (3, aI v21), (4, aI (nI 1))]) (st' := []) (cs' := []) (fun _ => rfl) al0 ?_
          refine w_sg k65 2 (pc' := 115) (ls' := [(0, aR 3 0), (1, aJ v8), (3, aI v21), (4, aI (nI 1))]) (st' := [aI (gI Y19.1 3 0 3)]) (cs' := []) (fun _ => rfl) al0 ?_
          refine w_if_ne k65 rfl (fun c => ?_) (fun c => ?_)
          · replace h := if_f c h
            refine w_ls [(0, aR 3 0), (1, aJ v8), (3, aI v21), (4, aI (nI 1))] (lq_c rfl (lq_c rfl (lq_c rfl (lq_c rfl lq_n)))) ?_
            exact J146_0 _ _ _ _ h
          · replace h := if_t c h
            refine w_sg k65 3 (pc' := 124) (ls' := [(0, aR 3 0), (1, aJ v8), (3, aI v21), (4, aI (nI 1))]) (st' := [aS 6, aR 4 0]) (cs' := []) (fun _ => rfl) al0 ?_
            obtain ⟨v26, Y24, hv25, h⟩ := bd_some h
            refine w_cV1 k65 (sn_97 _ _ _ hv25) rfl (st := []) rfl ?_ (fun _ _ q => q.elim)
            refine w_if_eq k65 rfl (fun c => ?_) (fun c => ?_)
            · replace h := if_t c h
              refine w_ls [(0, aR 3 0), (1, aJ v8), (3, aI v21), (4, aI (nI 1))] (lq_c rfl (lq_c rfl (lq_c rfl (lq_c rfl lq_n)))) ?_
              exact J146_0 _ _ _ _ h
            · replace h := if_f c h
              refine w_sg k65 2 (pc' := 134) (ls' := [(0, aR 3 0), (1, aJ v8), (3, aI v21), (4, aI (nI 1))]) (st' := [aR 4 0]) (cs' := []) (fun _ => rfl) al0 ?_
              obtain ⟨_, Y27, hv28, h⟩ := bd_some h
              refine w_cV0 k65 (sn_95  _ _ hv28) rfl (st := []) rfl ?_ (fun _ _ q => q.elim)
              refine w_sg k65 3 (pc' := 141) (ls' := [(0, aR 3 0), (1, aJ v8), (3, aI v21), (4, aI (nI 1))]) (st' := [aI (nI 9), aI (nI 1), aR 3 0]) (cs' := []) (fun _ => rfl) al0 ?_
              obtain ⟨v31, Y29, hv30, h⟩ := bd_some h
              refine w_cV1 k65 (sn_69 _ _ _ _ hv30) rfl (st := []) rfl ?_ (fun _ _ q => q.elim)
              refine w_sg k65 1 (pc' := 146) (ls' := [(0, aR 3 0), (1, aJ v8), (3, aI v21), (4, aI v31)]) (st' := []) (cs' := []) (fun _ => rfl) al0 ?_
              refine w_ls [(0, aR 3 0), (1, aJ v8), (3, aI v21), (4, aI v31)] (lq_c rfl (lq_c rfl (lq_c rfl (lq_c rfl lq_n)))) ?_
              exact J146_0 _ _ _ _ h
        · replace h := if_t c h
          refine w_sg k65 2 (pc' := 88) (ls' := [(0, aR 3 0), (1, aJ v8)]) (st' := [aI (nI 1), aR 3 0]) (cs' := []) (fun _ => rfl) al0 ?_
          obtain ⟨v34, Y32, hv33, h⟩ := bd_some h
          refine w_cV1 k65 (sn_60 _ _ _ hv33) rfl (st := []) rfl ?_ (fun _ _ q => q.elim)
          obtain ⟨hc35, h⟩ := ck_some h
          obtain rfl := Option.some.inj h
          exact w_zreturn k65 (bz_or hc35) ⟨rfl, rfl⟩
      · replace h := if_f c h
        refine w_sg k65 2 (pc' := 63) (ls' := [(0, aR 3 0), (1, aJ v8)]) (st' := [aI (nI 3), aR 3 0]) (cs' := []) (fun _ => rfl) al0 ?_
        obtain ⟨v38, Y36, hv37, h⟩ := bd_some h
        refine w_cV1 k65 (sn_60 _ _ _ hv37) rfl (st := []) rfl ?_ (fun _ _ q => q.elim)
        obtain ⟨hc39, h⟩ := ck_some h
        obtain rfl := Option.some.inj h
        exact w_zreturn k65 (bz_or hc39) ⟨rfl, rfl⟩
    · replace h := if_t c h
      refine w_sg k65 2 (pc' := 37) (ls' := [(0, aR 3 0)]) (st' := [aI (nI 1), aR 3 0]) (cs' := []) (fun _ => rfl) al0 ?_
      obtain ⟨v42, Y40, hv41, h⟩ := bd_some h
      refine w_cV1 k65 (sn_60 _ _ _ hv41) rfl (st := []) rfl ?_ (fun _ _ q => q.elim)
      obtain ⟨hc43, h⟩ := ck_some h
      obtain rfl := Option.some.inj h
      exact w_zreturn k65 (bz_or hc43) ⟨rfl, rfl⟩
  · replace h := if_f c h
    refine w_sg k65 2 (pc' := 14) (ls' := [(0, aR 3 0)]) (st' := [aI (nI 4), aR 3 0]) (cs' := []) (fun _ => rfl) al0 ?_
    obtain ⟨v46, Y44, hv45, h⟩ := bd_some h
    refine w_cV1 k65 (sn_60 _ _ _ hv45) rfl (st := []) rfl ?_ (fun _ _ q => q.elim)
    obtain ⟨hc47, h⟩ := ck_some h
    obtain rfl := Option.some.inj h
    exact w_zreturn k65 (bz_or hc47) ⟨rfl, rfl⟩
set_option maxRecDepth 20000 in
set_option maxHeartbeats 4000000 in
/-- BallotBus$SetupReader.readManner -/
theorem sn_64 {Y : Sm} (v : Int32) (Z : Sm) (h : fn_64 Y = some (v, Z)) : Mt 7 0 64 [aR 3 0] Y (Rt (some (aI v)) Z) nX := by
  refine Mt_of [(0, aR 3 0)] ?_
  generalize ho : (v, Z) = o at h
  have hv9 : v = o.1 := congrArg Prod.fst ho
  have hZ9 : Z = o.2 := congrArg Prod.snd ho
  clear ho
  subst hv9 hZ9
  unfold fn_64 at h
  have J49_0 : ∀ (t0 : Int32) (Y : Sm), fn_64_J49 t0 Y = some o → Wm 7 0 64 0 49 [(0, aR 3 0)] [aI t0] Y (Rt (some (aI o.1)) o.2) nX := by
    intro t0 Y h
    unfold fn_64_J49 at h
    refine w_sg k64 1 (pc' := 50) (ls' := [(0, aR 3 0), (1, aI t0)]) (st' := []) (cs' := []) (fun _ => rfl) al0 ?_
    refine w_sg k64 1 (pc' := 51) (ls' := [(0, aR 3 0), (1, aI t0)]) (st' := [aI t0]) (cs' := []) (fun _ => rfl) al0 ?_
    refine w_if_eq k64 rfl (fun c => ?_) (fun c => ?_)
    · replace h := if_t c h
      refine w_sg k64 1 (pc' := 62) (ls' := [(0, aR 3 0), (1, aI t0)]) (st' := [aI t0]) (cs' := []) (fun _ => rfl) al0 ?_
      obtain rfl := Option.some.inj h
      exact w_ireturn k64 ⟨rfl, rfl⟩
    · replace h := if_f c h
      refine w_sg k64 2 (pc' := 58) (ls' := [(0, aR 3 0), (1, aI t0)]) (st' := [aR 4 0]) (cs' := []) (fun _ => rfl) al0 ?_
      obtain ⟨_, Y10, hv11, h⟩ := bd_some h
      refine w_cV0 k64 (sn_95  _ _ hv11) rfl (st := []) rfl ?_ (fun _ _ q => q.elim)
      refine w_sg k64 1 (pc' := 62) (ls' := [(0, aR 3 0), (1, aI t0)]) (st' := [aI t0]) (cs' := []) (fun _ => rfl) al0 ?_
      obtain rfl := Option.some.inj h
      exact w_ireturn k64 ⟨rfl, rfl⟩
  refine w_sg k64 3 (pc' := 6) (ls' := [(0, aR 3 0)]) (st' := [aS 1, aR 4 0]) (cs' := []) (fun _ => rfl) al0 ?_
  obtain ⟨v3, Y1, hv2, h⟩ := bd_some h
  refine w_cV1 k64 (sn_97 _ _ _ hv2) rfl (st := []) rfl ?_ (fun _ _ q => q.elim)
  refine w_if_eq k64 rfl (fun c => ?_) (fun c => ?_)
  · replace h := if_t c h
    refine w_sg k64 3 (pc' := 22) (ls' := [(0, aR 3 0)]) (st' := [aS 2, aR 4 0]) (cs' := []) (fun _ => rfl) al0 ?_
    obtain ⟨v6, Y4, hv5, h⟩ := bd_some h
    refine w_cV1 k64 (sn_97 _ _ _ hv5) rfl (st := []) rfl ?_ (fun _ _ q => q.elim)
    refine w_if_eq k64 rfl (fun c => ?_) (fun c => ?_)
    · replace h := if_t c h
      refine w_sg k64 3 (pc' := 38) (ls' := [(0, aR 3 0)]) (st' := [aS 3, aR 4 0]) (cs' := []) (fun _ => rfl) al0 ?_
      obtain ⟨v9, Y7, hv8, h⟩ := bd_some h
      refine w_cV1 k64 (sn_97 _ _ _ hv8) rfl (st := []) rfl ?_ (fun _ _ q => q.elim)
      refine w_if_eq k64 rfl (fun c => ?_) (fun c => ?_)
      · replace h := if_t c h
        refine w_sg k64 1 (pc' := 49) (ls' := [(0, aR 3 0)]) (st' := [aI (nI 0)]) (cs' := []) (fun _ => rfl) al0 ?_
        refine w_ls [(0, aR 3 0)] (lq_c rfl lq_n) ?_
        exact J49_0 _ _ h
      · replace h := if_f c h
        refine w_sg k64 2 (pc' := 49) (ls' := [(0, aR 3 0)]) (st' := [aI (nI 3)]) (cs' := []) (fun _ => rfl) al0 ?_
        refine w_ls [(0, aR 3 0)] (lq_c rfl lq_n) ?_
        exact J49_0 _ _ h
    · replace h := if_f c h
      refine w_sg k64 2 (pc' := 49) (ls' := [(0, aR 3 0)]) (st' := [aI (nI 2)]) (cs' := []) (fun _ => rfl) al0 ?_
      refine w_ls [(0, aR 3 0)] (lq_c rfl lq_n) ?_
      exact J49_0 _ _ h
  · replace h := if_f c h
    refine w_sg k64 2 (pc' := 49) (ls' := [(0, aR 3 0)]) (st' := [aI (nI 1)]) (cs' := []) (fun _ => rfl) al0 ?_
    refine w_ls [(0, aR 3 0)] (lq_c rfl lq_n) ?_
    exact J49_0 _ _ h
set_option maxRecDepth 20000 in
set_option maxHeartbeats 4000000 in
/-- BallotBus$Setup.addKind -/
theorem sn_54 (i0 : Nat) (a1 : Int64) (a2 : Int32) {Y : Sm} (v : Unit) (Z : Sm) (h : fn_54 i0 a1 a2 Y = some (v, Z)) : Mt 4 0 54 [aR 5 i0, aJ a1, aI a2] Y (Rt none Z) nX := by
  refine Mt_of [(0, aR 5 i0), (1, aJ a1), (3, aI a2)] ?_
  generalize ho : (v, Z) = o at h
  have hv9 : v = o.1 := congrArg Prod.fst ho
  have hZ9 : Z = o.2 := congrArg Prod.snd ho
  clear ho
  subst hv9 hZ9
  unfold fn_54 at h
  refine w_sg k54 3 (pc' := 5) (ls' := [(0, aR 5 i0), (1, aJ a1), (3, aI a2)]) (st' := [aI (nI 5), aI (gI Y.1 5 i0 0)]) (cs' := []) (fun _ => rfl) al0 ?_
  refine w_icmp_ge k54 rfl (fun c => ?_) (fun c => ?_)
  · replace h := if_t c h
    obtain rfl := Option.some.inj h
    exact w_return k54 ⟨rfl, rfl⟩
  · replace h := if_f c h
    obtain ⟨hc1, h⟩ := ck_some h
    refine w_sw k54 6 (Z := (sJ Y 6 i0 (ix (gI Y.1 5 i0 0)) a1)) (pc' := 18) (ls' := [(0, aR 5 i0), (1, aJ a1), (3, aI a2)]) (st' := []) (cs' := [vp_in (gI Y.1 5 i0 0) 5, allw 6 i0]) (fun _ => rfl) rfl (al2 (vin hc1) (al1 rfl)) ?_
    replace h := wr_some h
    generalize (sJ Y 6 i0 (ix (gI Y.1 5 i0 0)) a1) = Y2 at h ⊢
    obtain ⟨hc3, h⟩ := ck_some h
    refine w_sw k54 6 (Z := (sI Y2 7 i0 (ix (gI Y2.1 5 i0 0)) a2)) (pc' := 28) (ls' := [(0, aR 5 i0), (1, aJ a1), (3, aI a2)]) (st' := []) (cs' := [vp_in (gI Y2.1 5 i0 0) 5, allw 7 i0]) (fun _ => rfl) rfl (al2 (vin hc3) (al1 rfl)) ?_
    replace h := wr_some h
    generalize (sI Y2 7 i0 (ix (gI Y2.1 5 i0 0)) a2) = Y4 at h ⊢
    refine w_sw k54 6 (Z := (sI Y4 5 i0 0 ((gI Y4.1 5 i0 0) + (nI 1)))) (pc' := 38) (ls' := [(0, aR 5 i0), (1, aJ a1), (3, aI a2)]) (st' := []) (cs' := [allw 5 i0]) (fun _ => rfl) rfl (al1 rfl) ?_
    replace h := wr_some h
    generalize (sI Y4 5 i0 0 ((gI Y4.1 5 i0 0) + (nI 1))) = Y5 at h ⊢
    obtain rfl := Option.some.inj h
    exact w_return k54 ⟨rfl, rfl⟩
set_option maxRecDepth 20000 in
set_option maxHeartbeats 4000000 in
/-- BallotBus$SetupReader.readKind -/
theorem sn_63 {Y : Sm} (v : Int32) (Z : Sm) (h : fn_63 Y = some (v, Z)) : Mt 8 0 63 [aR 3 0] Y (Rt (some (aI v)) Z) nX := by
  refine Mt_of [(0, aR 3 0)] ?_
  generalize ho : (v, Z) = o at h
  have hv9 : v = o.1 := congrArg Prod.fst ho
  have hZ9 : Z = o.2 := congrArg Prod.snd ho
  clear ho
  subst hv9 hZ9
  unfold fn_63 at h
  refine w_sg k63 4 (pc' := 8) (ls' := [(0, aR 3 0)]) (st' := [aI (nI 5), aI (gI Y.1 5 (Y.2 2) 0)]) (cs' := []) (fun _ => rfl) al0 ?_
  refine w_icmp_lt k63 rfl (fun c => ?_) (fun c => ?_)
  · replace h := if_t c h
    refine w_sg k63 2 (pc' := 21) (ls' := [(0, aR 3 0)]) (st' := [aR 4 0]) (cs' := []) (fun _ => rfl) al0 ?_
    obtain ⟨_, Y1, hv2, h⟩ := bd_some h
    refine w_cV0 k63 (sn_95  _ _ hv2) rfl (st := []) rfl ?_ (fun _ _ q => q.elim)
    refine w_sg k63 2 (pc' := 28) (ls' := [(0, aR 3 0)]) (st' := [aR 4 0]) (cs' := []) (fun _ => rfl) al0 ?_
    obtain ⟨v5, Y3, hv4, h⟩ := bd_some h
    refine w_cV1 k63 (sn_98  _ _ hv4) rfl (st := []) rfl ?_ (fun _ _ q => q.elim)
    refine w_if_ne k63 rfl (fun c => ?_) (fun c => ?_)
    · replace h := if_f c h
      refine w_sg k63 2 (pc' := 44) (ls' := [(0, aR 3 0)]) (st' := [aR 4 0]) (cs' := []) (fun _ => rfl) al0 ?_
      obtain ⟨v8, Y6, hv7, h⟩ := bd_some h
      refine w_cV1 k63 (sn_100  _ _ hv7) rfl (st := []) rfl ?_ (fun _ _ q => q.elim)
      refine w_sg k63 1 (pc' := 48) (ls' := [(0, aR 3 0), (1, aJ v8)]) (st' := []) (cs' := []) (fun _ => rfl) al0 ?_
      refine w_sg k63 3 (pc' := 53) (ls' := [(0, aR 3 0), (1, aJ v8)]) (st' := [aJ v8, aR 5 (Y6.2 2)]) (cs' := []) (fun _ => rfl) al0 ?_
      obtain ⟨v11, Y9, hv10, h⟩ := bd_some h
      refine w_cV1 k63 (sn_56 _ _ _ _ hv10) rfl (st := []) rfl ?_ (fun _ _ q => q.elim)
      refine w_sg k63 1 (pc' := 57) (ls' := [(0, aR 3 0), (1, aJ v8)]) (st' := [aI (-1 : Int32), aI v11]) (cs' := []) (fun _ => rfl) al0 ?_
      refine w_icmp_eq k63 rfl (fun c => ?_) (fun c => ?_)
      · replace h := if_t c h
        refine w_sg k63 2 (pc' := 70) (ls' := [(0, aR 3 0), (1, aJ v8)]) (st' := [aR 4 0]) (cs' := []) (fun _ => rfl) al0 ?_
        obtain ⟨_, Y12, hv13, h⟩ := bd_some h
        refine w_cV0 k63 (sn_95  _ _ hv13) rfl (st := []) rfl ?_ (fun _ _ q => q.elim)
        refine w_sg k63 4 (pc' := 79) (ls' := [(0, aR 3 0), (1, aJ v8)]) (st' := [aR 3 0, aJ v8, aR 5 (Y12.2 2)]) (cs' := []) (fun _ => rfl) al0 ?_
        obtain ⟨v16, Y14, hv15, h⟩ := bd_some h
        refine w_cV1 k63 (sn_64  _ _ hv15) rfl (st := [aJ v8, aR 5 (Y12.2 2)]) rfl ?_ (fun _ _ q => q.elim)
        obtain ⟨_, Y17, hv18, h⟩ := bd_some h
        refine w_cV0 k63 (sn_54 _ _ _ _ _ hv18) rfl (st := []) rfl ?_ (fun _ _ q => q.elim)
        refine w_sg k63 1 (pc' := 86) (ls' := [(0, aR 3 0), (1, aJ v8)]) (st' := [aI (nI 1)]) (cs' := []) (fun _ => rfl) al0 ?_
        obtain rfl := Option.some.inj h
        exact w_zreturn k63 (Or.inr rfl) ⟨rfl, rfl⟩
      · replace h := if_f c h
        refine w_sg k63 2 (pc' := 62) (ls' := [(0, aR 3 0), (1, aJ v8)]) (st' := [aI (nI 3), aR 3 0]) (cs' := []) (fun _ => rfl) al0 ?_
        obtain ⟨v21, Y19, hv20, h⟩ := bd_some h
        refine w_cV1 k63 (sn_60 _ _ _ hv20) rfl (st := []) rfl ?_ (fun _ _ q => q.elim)
        obtain ⟨hc22, h⟩ := ck_some h
        obtain rfl := Option.some.inj h
        exact w_zreturn k63 (bz_or hc22) ⟨rfl, rfl⟩
    · replace h := if_t c h
      refine w_sg k63 2 (pc' := 36) (ls' := [(0, aR 3 0)]) (st' := [aI (nI 1), aR 3 0]) (cs' := []) (fun _ => rfl) al0 ?_
      obtain ⟨v25, Y23, hv24, h⟩ := bd_some h
      refine w_cV1 k63 (sn_60 _ _ _ hv24) rfl (st := []) rfl ?_ (fun _ _ q => q.elim)
      obtain ⟨hc26, h⟩ := ck_some h
      obtain rfl := Option.some.inj h
      exact w_zreturn k63 (bz_or hc26) ⟨rfl, rfl⟩
  · replace h := if_f c h
    refine w_sg k63 2 (pc' := 13) (ls' := [(0, aR 3 0)]) (st' := [aI (nI 4), aR 3 0]) (cs' := []) (fun _ => rfl) al0 ?_
    obtain ⟨v29, Y27, hv28, h⟩ := bd_some h
    refine w_cV1 k63 (sn_60 _ _ _ hv28) rfl (st := []) rfl ?_ (fun _ _ q => q.elim)
    obtain ⟨hc30, h⟩ := ck_some h
    obtain rfl := Option.some.inj h
    exact w_zreturn k63 (bz_or hc30) ⟨rfl, rfl⟩
set_option maxRecDepth 20000 in
set_option maxHeartbeats 4000000 in
/-- BallotBus$SetupReader.readStatement -/
theorem sn_62 {Y : Sm} (v : Int32) (Z : Sm) (h : fn_62 Y = some (v, Z)) : Mt 9 0 62 [aR 3 0] Y (Rt (some (aI v)) Z) nX := by
  refine Mt_of [(0, aR 3 0)] ?_
  generalize ho : (v, Z) = o at h
  have hv9 : v = o.1 := congrArg Prod.fst ho
  have hZ9 : Z = o.2 := congrArg Prod.snd ho
  clear ho
  subst hv9 hZ9
  unfold fn_62 at h
  refine w_sg k62 3 (pc' := 6) (ls' := [(0, aR 3 0)]) (st' := [aS 0, aR 4 0]) (cs' := []) (fun _ => rfl) al0 ?_
  obtain ⟨v3, Y1, hv2, h⟩ := bd_some h
  refine w_cV1 k62 (sn_97 _ _ _ hv2) rfl (st := []) rfl ?_ (fun _ _ q => q.elim)
  refine w_if_eq k62 rfl (fun c => ?_) (fun c => ?_)
  · replace h := if_t c h
    refine w_sg k62 3 (pc' := 23) (ls' := [(0, aR 3 0)]) (st' := [aS 4, aR 4 0]) (cs' := []) (fun _ => rfl) al0 ?_
    obtain ⟨v6, Y4, hv5, h⟩ := bd_some h
    refine w_cV1 k62 (sn_97 _ _ _ hv5) rfl (st := []) rfl ?_ (fun _ _ q => q.elim)
    refine w_if_eq k62 rfl (fun c => ?_) (fun c => ?_)
    · replace h := if_t c h
      refine w_sg k62 3 (pc' := 40) (ls' := [(0, aR 3 0)]) (st' := [aS 16, aR 4 0]) (cs' := []) (fun _ => rfl) al0 ?_
      obtain ⟨v9, Y7, hv8, h⟩ := bd_some h
      refine w_cV1 k62 (sn_97 _ _ _ hv8) rfl (st := []) rfl ?_ (fun _ _ q => q.elim)
      refine w_if_eq k62 rfl (fun c => ?_) (fun c => ?_)
      · replace h := if_t c h
        refine w_sg k62 3 (pc' := 57) (ls' := [(0, aR 3 0)]) (st' := [aS 7, aR 4 0]) (cs' := []) (fun _ => rfl) al0 ?_
        obtain ⟨v12, Y10, hv11, h⟩ := bd_some h
        refine w_cV1 k62 (sn_97 _ _ _ hv11) rfl (st := []) rfl ?_ (fun _ _ q => q.elim)
        refine w_if_eq k62 rfl (fun c => ?_) (fun c => ?_)
        · replace h := if_t c h
          refine w_sg k62 3 (pc' := 74) (ls' := [(0, aR 3 0)]) (st' := [aS 11, aR 4 0]) (cs' := []) (fun _ => rfl) al0 ?_
          obtain ⟨v15, Y13, hv14, h⟩ := bd_some h
          refine w_cV1 k62 (sn_97 _ _ _ hv14) rfl (st := []) rfl ?_ (fun _ _ q => q.elim)
          refine w_if_eq k62 rfl (fun c => ?_) (fun c => ?_)
          · replace h := if_t c h
            refine w_sg k62 3 (pc' := 95) (ls' := [(0, aR 3 0)]) (st' := [aS 12, aR 4 0]) (cs' := []) (fun _ => rfl) al0 ?_
            obtain ⟨v18, Y16, hv17, h⟩ := bd_some h
            refine w_cV1 k62 (sn_97 _ _ _ hv17) rfl (st := []) rfl ?_ (fun _ _ q => q.elim)
            refine w_if_eq k62 rfl (fun c => ?_) (fun c => ?_)
            · replace h := if_t c h
              refine w_sg k62 3 (pc' := 116) (ls' := [(0, aR 3 0)]) (st' := [aS 13, aR 4 0]) (cs' := []) (fun _ => rfl) al0 ?_
              obtain ⟨v21, Y19, hv20, h⟩ := bd_some h
              refine w_cV1 k62 (sn_97 _ _ _ hv20) rfl (st := []) rfl ?_ (fun _ _ q => q.elim)
              refine w_if_eq k62 rfl (fun c => ?_) (fun c => ?_)
              · replace h := if_t c h
                refine w_sg k62 3 (pc' := 137) (ls' := [(0, aR 3 0)]) (st' := [aS 14, aR 4 0]) (cs' := []) (fun _ => rfl) al0 ?_
                obtain ⟨v24, Y22, hv23, h⟩ := bd_some h
                refine w_cV1 k62 (sn_97 _ _ _ hv23) rfl (st := []) rfl ?_ (fun _ _ q => q.elim)
                refine w_if_eq k62 rfl (fun c => ?_) (fun c => ?_)
                · replace h := if_t c h
                  refine w_sg k62 3 (pc' := 158) (ls' := [(0, aR 3 0)]) (st' := [aS 15, aR 4 0]) (cs' := []) (fun _ => rfl) al0 ?_
                  obtain ⟨v27, Y25, hv26, h⟩ := bd_some h
                  refine w_cV1 k62 (sn_97 _ _ _ hv26) rfl (st := []) rfl ?_ (fun _ _ q => q.elim)
                  refine w_if_eq k62 rfl (fun c => ?_) (fun c => ?_)
                  · replace h := if_t c h
                    refine w_sg k62 2 (pc' := 175) (ls' := [(0, aR 3 0)]) (st' := [aI (nI 1), aR 3 0]) (cs' := []) (fun _ => rfl) al0 ?_
                    obtain ⟨v30, Y28, hv29, h⟩ := bd_some h
                    refine w_cV1 k62 (sn_60 _ _ _ hv29) rfl (st := []) rfl ?_ (fun _ _ q => q.elim)
                    obtain ⟨hc31, h⟩ := ck_some h
                    obtain rfl := Option.some.inj h
                    exact w_zreturn k62 (bz_or hc31) ⟨rfl, rfl⟩
                  · replace h := if_f c h
                    refine w_sg k62 4 (pc' := 169) (ls' := [(0, aR 3 0)]) (st' := [aI (nI 9), aI (nI 1), aI (nI 4), aR 3 0]) (cs' := []) (fun _ => rfl) al0 ?_
                    obtain ⟨v34, Y32, hv33, h⟩ := bd_some h
                    refine w_cV1 k62 (sn_68 _ _ _ _ _ hv33) rfl (st := []) rfl ?_ (fun _ _ q => q.elim)
                    obtain ⟨hc35, h⟩ := ck_some h
                    obtain rfl := Option.some.inj h
                    exact w_zreturn k62 (bz_or hc35) ⟨rfl, rfl⟩
                · replace h := if_f c h
                  refine w_sg k62 4 (pc' := 148) (ls' := [(0, aR 3 0)]) (st' := [aI (nI 99), aI (nI 0), aI (nI 3), aR 3 0]) (cs' := []) (fun _ => rfl) al0 ?_
                  obtain ⟨v38, Y36, hv37, h⟩ := bd_some h
                  refine w_cV1 k62 (sn_68 _ _ _ _ _ hv37) rfl (st := []) rfl ?_ (fun _ _ q => q.elim)
                  obtain ⟨hc39, h⟩ := ck_some h
                  obtain rfl := Option.some.inj h
                  exact w_zreturn k62 (bz_or hc39) ⟨rfl, rfl⟩
              · replace h := if_f c h
                refine w_sg k62 4 (pc' := 127) (ls' := [(0, aR 3 0)]) (st' := [aI (nI 99), aI (nI 0), aI (nI 2), aR 3 0]) (cs' := []) (fun _ => rfl) al0 ?_
                obtain ⟨v42, Y40, hv41, h⟩ := bd_some h
                refine w_cV1 k62 (sn_68 _ _ _ _ _ hv41) rfl (st := []) rfl ?_ (fun _ _ q => q.elim)
                obtain ⟨hc43, h⟩ := ck_some h
                obtain rfl := Option.some.inj h
                exact w_zreturn k62 (bz_or hc43) ⟨rfl, rfl⟩
            · replace h := if_f c h
              refine w_sg k62 4 (pc' := 106) (ls' := [(0, aR 3 0)]) (st' := [aI (nI 50), aI (nI 1), aI (nI 1), aR 3 0]) (cs' := []) (fun _ => rfl) al0 ?_
              obtain ⟨v46, Y44, hv45, h⟩ := bd_some h
              refine w_cV1 k62 (sn_68 _ _ _ _ _ hv45) rfl (st := []) rfl ?_ (fun _ _ q => q.elim)
              obtain ⟨hc47, h⟩ := ck_some h
              obtain rfl := Option.some.inj h
              exact w_zreturn k62 (bz_or hc47) ⟨rfl, rfl⟩
          · replace h := if_f c h
            refine w_sg k62 4 (pc' := 85) (ls' := [(0, aR 3 0)]) (st' := [aI (nI 20), aI (nI 1), aI (nI 0), aR 3 0]) (cs' := []) (fun _ => rfl) al0 ?_
            obtain ⟨v50, Y48, hv49, h⟩ := bd_some h
            refine w_cV1 k62 (sn_68 _ _ _ _ _ hv49) rfl (st := []) rfl ?_ (fun _ _ q => q.elim)
            obtain ⟨hc51, h⟩ := ck_some h
            obtain rfl := Option.some.inj h
            exact w_zreturn k62 (bz_or hc51) ⟨rfl, rfl⟩
        · replace h := if_f c h
          refine w_sg k62 1 (pc' := 64) (ls' := [(0, aR 3 0)]) (st' := [aR 3 0]) (cs' := []) (fun _ => rfl) al0 ?_
          obtain ⟨v54, Y52, hv53, h⟩ := bd_some h
          refine w_cV1 k62 (sn_67  _ _ hv53) rfl (st := []) rfl ?_ (fun _ _ q => q.elim)
          obtain ⟨hc55, h⟩ := ck_some h
          obtain rfl := Option.some.inj h
          exact w_zreturn k62 (bz_or hc55) ⟨rfl, rfl⟩
      · replace h := if_f c h
        refine w_sg k62 1 (pc' := 47) (ls' := [(0, aR 3 0)]) (st' := [aR 3 0]) (cs' := []) (fun _ => rfl) al0 ?_
        obtain ⟨v58, Y56, hv57, h⟩ := bd_some h
        refine w_cV1 k62 (sn_66  _ _ hv57) rfl (st := []) rfl ?_ (fun _ _ q => q.elim)
        obtain ⟨hc59, h⟩ := ck_some h
        obtain rfl := Option.some.inj h
        exact w_zreturn k62 (bz_or hc59) ⟨rfl, rfl⟩
    · replace h := if_f c h
      refine w_sg k62 1 (pc' := 30) (ls' := [(0, aR 3 0)]) (st' := [aR 3 0]) (cs' := []) (fun _ => rfl) al0 ?_
      obtain ⟨v62, Y60, hv61, h⟩ := bd_some h
      refine w_cV1 k62 (sn_65  _ _ hv61) rfl (st := []) rfl ?_ (fun _ _ q => q.elim)
      obtain ⟨hc63, h⟩ := ck_some h
      obtain rfl := Option.some.inj h
      exact w_zreturn k62 (bz_or hc63) ⟨rfl, rfl⟩
  · replace h := if_f c h
    refine w_sg k62 1 (pc' := 13) (ls' := [(0, aR 3 0)]) (st' := [aR 3 0]) (cs' := []) (fun _ => rfl) al0 ?_
    obtain ⟨v66, Y64, hv65, h⟩ := bd_some h
    refine w_cV1 k62 (sn_63  _ _ hv65) rfl (st := []) rfl ?_ (fun _ _ q => q.elim)
    obtain ⟨hc67, h⟩ := ck_some h
    obtain rfl := Option.some.inj h
    exact w_zreturn k62 (bz_or hc67) ⟨rfl, rfl⟩
set_option maxRecDepth 20000 in
set_option maxHeartbeats 4000000 in
/-- BallotBus$SetupReader.readSemicolon -/
theorem sn_61 {Y : Sm} (v : Int32) (Z : Sm) (h : fn_61 Y = some (v, Z)) : Mt 7 0 61 [aR 3 0] Y (Rt (some (aI v)) Z) nX := by
  refine Mt_of [(0, aR 3 0)] ?_
  generalize ho : (v, Z) = o at h
  have hv9 : v = o.1 := congrArg Prod.fst ho
  have hZ9 : Z = o.2 := congrArg Prod.snd ho
  clear ho
  subst hv9 hZ9
  unfold fn_61 at h
  refine w_sg k61 4 (pc' := 8) (ls' := [(0, aR 3 0)]) (st' := [aI (nI 3), aI (gI Y.1 4 0 1)]) (cs' := []) (fun _ => rfl) al0 ?_
  refine w_icmp_eq k61 rfl (fun c => ?_) (fun c => ?_)
  · replace h := if_t c h
    refine w_sg k61 2 (pc' := 21) (ls' := [(0, aR 3 0)]) (st' := [aR 4 0]) (cs' := []) (fun _ => rfl) al0 ?_
    obtain ⟨_, Y1, hv2, h⟩ := bd_some h
    refine w_cV0 k61 (sn_95  _ _ hv2) rfl (st := []) rfl ?_ (fun _ _ q => q.elim)
    refine w_sg k61 1 (pc' := 25) (ls' := [(0, aR 3 0)]) (st' := [aI (nI 1)]) (cs' := []) (fun _ => rfl) al0 ?_
    obtain rfl := Option.some.inj h
    exact w_zreturn k61 (Or.inr rfl) ⟨rfl, rfl⟩
  · replace h := if_f c h
    refine w_sg k61 2 (pc' := 13) (ls' := [(0, aR 3 0)]) (st' := [aI (nI 1), aR 3 0]) (cs' := []) (fun _ => rfl) al0 ?_
    obtain ⟨v5, Y3, hv4, h⟩ := bd_some h
    refine w_cV1 k61 (sn_60 _ _ _ hv4) rfl (st := []) rfl ?_ (fun _ _ q => q.elim)
    obtain ⟨hc6, h⟩ := ck_some h
    obtain rfl := Option.some.inj h
    exact w_zreturn k61 (bz_or hc6) ⟨rfl, rfl⟩
set_option maxRecDepth 20000 in
set_option maxHeartbeats 4000000 in
/-- BallotBus$SetupReader.read -/
theorem sn_59 (i1 : Nat) {Y : Sm} (v : Int32) (Z : Sm) (h : fn_59 i1 Y = some (v, Z)) : Mt 10 0 59 [aR 3 0, aR 5 i1] Y (Rt (some (aI v)) Z) nX := by
  refine Mt_of [(0, aR 3 0), (1, aR 5 i1)] ?_
  generalize ho : (v, Z) = o at h
  have hv9 : v = o.1 := congrArg Prod.fst ho
  have hZ9 : Z = o.2 := congrArg Prod.snd ho
  clear ho
  subst hv9 hZ9
  unfold fn_59 at h
  have L36_0 : ∀ (n : Nat) (l2 : Int32) (Y : Sm) (e12 : (Sm) ⊕ (Int32 × Sm)), lp (fun s => fn_59_L36 s.1 s.2) n (l2, Y) = some e12 → (∀ s9 : (Sm), e12 = .inl s9 → Wm 10 0 59 0 78 [(0, aR 3 0)] [] s9 (Rt (some (aI o.1)) o.2) nX) → (∀ r, e12 = .inr r → r = o) → Wm 10 0 59 0 36 [(0, aR 3 0), (2, aI l2)] [] Y (Rt (some (aI o.1)) o.2) nX := by
    intro n
    induction n with
    | zero => intro l2 Y e12 h; cases h
    | succ n ih11 =>
      intro l2 Y e12 h kE13 kR14
      obtain ⟨q9, h, hn10⟩ := lp_succ h
      replace h : fn_59_L36 l2 Y = some q9 := h
      unfold fn_59_L36 at h
      refine w_sg k59 2 (pc' := 40) (ls' := [(0, aR 3 0), (2, aI l2)]) (st' := [aI (nI 500), aI l2]) (cs' := []) (fun _ => rfl) al0 ?_
      refine w_icmp_ge k59 rfl (fun c => ?_) (fun c => ?_)
      · replace h := if_t c h
        refine w_ls [(0, aR 3 0)] (lq_c rfl lq_n) ?_
        obtain rfl := Option.some.inj h
        obtain rfl := lpn_r hn10
        exact kE13 (Y) rfl
      · replace h := if_f c h
        refine w_sg k59 2 (pc' := 47) (ls' := [(0, aR 3 0), (2, aI l2)]) (st' := [aI (gI Y.1 3 0 3)]) (cs' := []) (fun _ => rfl) al0 ?_
        refine w_if_ne k59 rfl (fun c => ?_) (fun c => ?_)
        · replace h := if_f c h
          refine w_ls [(0, aR 3 0)] (lq_c rfl lq_n) ?_
          obtain rfl := Option.some.inj h
          obtain rfl := lpn_r hn10
          exact kE13 (Y) rfl
        · replace h := if_t c h
          refine w_sg k59 3 (pc' := 57) (ls' := [(0, aR 3 0), (2, aI l2)]) (st' := [aI (gI Y.1 4 0 1)]) (cs' := []) (fun _ => rfl) al0 ?_
          refine w_if_eq k59 rfl (fun c => ?_) (fun c => ?_)
          · replace h := if_t c h
            refine w_ls [(0, aR 3 0)] (lq_c rfl lq_n) ?_
            obtain rfl := Option.some.inj h
            obtain rfl := lpn_r hn10
            exact kE13 (Y) rfl
          · replace h := if_f c h
            refine w_sg k59 1 (pc' := 61) (ls' := [(0, aR 3 0), (2, aI l2)]) (st' := [aR 3 0]) (cs' := []) (fun _ => rfl) al0 ?_
            obtain ⟨v17, Y15, hv16, h⟩ := bd_some h
            refine w_cV1 k59 (sn_62  _ _ hv16) rfl (st := []) rfl ?_ (fun _ _ q => q.elim)
            refine w_if_eq k59 rfl (fun c => ?_) (fun c => ?_)
            · replace h := if_t c h
              refine w_sg k59 1 (pc' := 75) (ls' := [(0, aR 3 0), (2, aI (l2 + (nI 1)))]) (st' := []) (cs' := []) (fun _ => rfl) al0 ?_
              refine w_sg k59 1 (pc' := 36) (ls' := [(0, aR 3 0), (2, aI (l2 + (nI 1)))]) (st' := []) (cs' := []) (fun _ => rfl) al0 ?_
              refine w_ls [(0, aR 3 0), (2, aI (l2 + (nI 1)))] (lq_c rfl (lq_c rfl lq_n)) ?_
              obtain rfl := Option.some.inj h
              exact ih11 _ _ _ (lpn_l hn10) kE13 kR14
            · replace h := if_f c h
              refine w_sg k59 1 (pc' := 68) (ls' := [(0, aR 3 0), (2, aI l2)]) (st' := [aR 3 0]) (cs' := []) (fun _ => rfl) al0 ?_
              obtain ⟨v20, Y18, hv19, h⟩ := bd_some h
              refine w_cV1 k59 (sn_61  _ _ hv19) rfl (st := []) rfl ?_ (fun _ _ q => q.elim)
              refine w_sg k59 2 (pc' := 75) (ls' := [(0, aR 3 0), (2, aI (l2 + (nI 1)))]) (st' := []) (cs' := []) (fun _ => rfl) al0 ?_
              refine w_sg k59 1 (pc' := 36) (ls' := [(0, aR 3 0), (2, aI (l2 + (nI 1)))]) (st' := []) (cs' := []) (fun _ => rfl) al0 ?_
              refine w_ls [(0, aR 3 0), (2, aI (l2 + (nI 1)))] (lq_c rfl (lq_c rfl lq_n)) ?_
              obtain rfl := Option.some.inj h
              exact ih11 _ _ _ (lpn_l hn10) kE13 kR14
  have J105_0 : ∀ (Y : Sm), fn_59_J105 Y = some o → Wm 10 0 59 0 105 [(0, aR 3 0)] [] Y (Rt (some (aI o.1)) o.2) nX := by
    intro Y h
    unfold fn_59_J105 at h
    refine w_sg k59 2 (pc' := 107) (ls' := [(0, aR 3 0)]) (st' := [aI (nI 5), aR 3 0]) (cs' := []) (fun _ => rfl) al0 ?_
    obtain ⟨v23, Y21, hv22, h⟩ := bd_some h
    refine w_cV1 k59 (sn_60 _ _ _ hv22) rfl (st := []) rfl ?_ (fun _ _ q => q.elim)
    refine w_sg k59 3 (pc' := 115) (ls' := [(0, aR 3 0)]) (st' := [aI (gI Y21.1 3 0 3)]) (cs' := []) (fun _ => rfl) al0 ?_
    refine w_if_ne k59 rfl (fun c => ?_) (fun c => ?_)
    · replace h := if_f c h
      refine w_sg k59 1 (pc' := 123) (ls' := [(0, aR 3 0)]) (st' := [aI (nI 0)]) (cs' := []) (fun _ => rfl) al0 ?_
      obtain rfl := Option.some.inj h
      exact w_zreturn k59 (Or.inl rfl) ⟨rfl, rfl⟩
    · replace h := if_t c h
      refine w_sg k59 2 (pc' := 123) (ls' := [(0, aR 3 0)]) (st' := [aI (nI 1)]) (cs' := []) (fun _ => rfl) al0 ?_
      obtain rfl := Option.some.inj h
      exact w_zreturn k59 (Or.inr rfl) ⟨rfl, rfl⟩
  have J78_0 : ∀ (Y : Sm), fn_59_J78 Y = some o → Wm 10 0 59 0 78 [(0, aR 3 0)] [] Y (Rt (some (aI o.1)) o.2) nX := by
    intro Y h
    unfold fn_59_J78 at h
    refine w_sg k59 2 (pc' := 82) (ls' := [(0, aR 3 0)]) (st' := [aI (gI Y.1 3 0 3)]) (cs' := []) (fun _ => rfl) al0 ?_
    refine w_if_ne k59 rfl (fun c => ?_) (fun c => ?_)
    · replace h := if_f c h
      refine w_sg k59 2 (pc' := 115) (ls' := [(0, aR 3 0)]) (st' := [aI (gI Y.1 3 0 3)]) (cs' := []) (fun _ => rfl) al0 ?_
      refine w_if_ne k59 rfl (fun c => ?_) (fun c => ?_)
      · replace h := if_f c h
        refine w_sg k59 1 (pc' := 123) (ls' := [(0, aR 3 0)]) (st' := [aI (nI 0)]) (cs' := []) (fun _ => rfl) al0 ?_
        obtain rfl := Option.some.inj h
        exact w_zreturn k59 (Or.inl rfl) ⟨rfl, rfl⟩
      · replace h := if_t c h
        refine w_sg k59 2 (pc' := 123) (ls' := [(0, aR 3 0)]) (st' := [aI (nI 1)]) (cs' := []) (fun _ => rfl) al0 ?_
        obtain rfl := Option.some.inj h
        exact w_zreturn k59 (Or.inr rfl) ⟨rfl, rfl⟩
    · replace h := if_t c h
      refine w_sg k59 3 (pc' := 92) (ls' := [(0, aR 3 0)]) (st' := [aI (gI Y.1 5 (Y.2 2) 0)]) (cs' := []) (fun _ => rfl) al0 ?_
      refine w_if_eq k59 rfl (fun c => ?_) (fun c => ?_)
      · replace h := if_t c h
        refine w_ls [(0, aR 3 0)] (lq_c rfl lq_n) ?_
        exact J105_0 _ h
      · replace h := if_f c h
        refine w_sg k59 3 (pc' := 102) (ls' := [(0, aR 3 0)]) (st' := [aI (gI Y.1 5 (Y.2 2) 3)]) (cs' := []) (fun _ => rfl) al0 ?_
        refine w_if_ne k59 rfl (fun c => ?_) (fun c => ?_)
        · replace h := if_f c h
          refine w_sg k59 2 (pc' := 115) (ls' := [(0, aR 3 0)]) (st' := [aI (gI Y.1 3 0 3)]) (cs' := []) (fun _ => rfl) al0 ?_
          refine w_if_ne k59 rfl (fun c => ?_) (fun c => ?_)
          · replace h := if_f c h
            refine w_sg k59 1 (pc' := 123) (ls' := [(0, aR 3 0)]) (st' := [aI (nI 0)]) (cs' := []) (fun _ => rfl) al0 ?_
            obtain rfl := Option.some.inj h
            exact w_zreturn k59 (Or.inl rfl) ⟨rfl, rfl⟩
          · replace h := if_t c h
            refine w_sg k59 2 (pc' := 123) (ls' := [(0, aR 3 0)]) (st' := [aI (nI 1)]) (cs' := []) (fun _ => rfl) al0 ?_
            obtain rfl := Option.some.inj h
            exact w_zreturn k59 (Or.inr rfl) ⟨rfl, rfl⟩
        · replace h := if_t c h
          refine w_ls [(0, aR 3 0)] (lq_c rfl lq_n) ?_
          exact J105_0 _ h
  refine w_sg k59 2 (pc' := 2) (ls' := [(0, aR 3 0), (1, aR 5 i1)]) (st' := [aR 5 i1, aR 3 0]) (cs' := []) (fun _ => rfl) al0 ?_
  refine w_pg2 k59 rfl ?_
  replace h := wr_some h
  generalize (sG Y 2 i1) = Y1 at h ⊢
  refine w_sg k59 2 (pc' := 9) (ls' := [(0, aR 3 0), (1, aR 5 i1)]) (st' := [aR 5 (Y1.2 2)]) (cs' := []) (fun _ => rfl) al0 ?_
  obtain ⟨_, Y2, hv3, h⟩ := bd_some h
  refine w_cV0 k59 (sn_52 _ _ _ hv3) rfl (st := []) rfl ?_ (fun _ _ q => q.elim)
  refine w_sw k59 3 (Z := (sI Y2 3 0 2 (nI 0))) (pc' := 17) (ls' := [(0, aR 3 0), (1, aR 5 i1)]) (st' := []) (cs' := [allw 3 0]) (fun _ => rfl) rfl (al1 rfl) ?_
  replace h := wr_some h
  generalize (sI Y2 3 0 2 (nI 0)) = Y4 at h ⊢
  refine w_sw k59 3 (Z := (sI Y4 3 0 3 (nI 0))) (pc' := 22) (ls' := [(0, aR 3 0), (1, aR 5 i1)]) (st' := []) (cs' := [allw 3 0]) (fun _ => rfl) rfl (al1 rfl) ?_
  replace h := wr_some h
  generalize (sI Y4 3 0 3 (nI 0)) = Y5 at h ⊢
  refine w_sw k59 3 (Z := (sI Y5 3 0 4 (-1 : Int32))) (pc' := 27) (ls' := [(0, aR 3 0), (1, aR 5 i1)]) (st' := []) (cs' := [allw 3 0]) (fun _ => rfl) rfl (al1 rfl) ?_
  replace h := wr_some h
  generalize (sI Y5 3 0 4 (-1 : Int32)) = Y6 at h ⊢
  refine w_sg k59 2 (pc' := 31) (ls' := [(0, aR 3 0), (1, aR 5 i1)]) (st' := [aR 4 0]) (cs' := []) (fun _ => rfl) al0 ?_
  obtain ⟨_, Y7, hv8, h⟩ := bd_some h
  refine w_cV0 k59 (sn_94  _ _ hv8) rfl (st := []) rfl ?_ (fun _ _ q => q.elim)
  refine w_sg k59 2 (pc' := 36) (ls' := [(0, aR 3 0), (1, aR 5 i1), (2, aI (nI 0))]) (st' := []) (cs' := []) (fun _ => rfl) al0 ?_
  obtain ⟨e26, hl24, hx25⟩ := exd_some h
  refine w_ls [(0, aR 3 0), (2, aI (nI 0))] (lq_c rfl (lq_c rfl lq_n)) ?_
  refine L36_0 _ _ _ e26 hl24 (fun s9 hs9 => ?_) (fun r9 hr9 => ?_)
  · subst hs9
    replace h : fn_59_J78 s9 = some o := hx25
    refine w_ls [(0, aR 3 0)] (lq_c rfl lq_n) ?_
    exact J78_0 _ h
  · subst hr9
    exact hx25
set_option maxRecDepth 20000 in
set_option maxHeartbeats 4000000 in
/-- BallotBus$Rows.number -/
theorem sn_43_22 (i0 : Nat) {Y : Sm} (v : Unit) (Z : Sm) (h : fn_43_22 i0 Y = some (v, Z)) : Mt 4 0 43 [aR 22 i0] Y (Rt none Z) nX := by
  refine Mt_of [(0, aR 22 i0)] ?_
  generalize ho : (v, Z) = o at h
  have hv9 : v = o.1 := congrArg Prod.fst ho
  have hZ9 : Z = o.2 := congrArg Prod.snd ho
  clear ho
  subst hv9 hZ9
  unfold fn_43_22 at h
  have L2_0 : ∀ (l0 : Nat) (n : Nat) (l1 : Int32) (Y : Sm), lp (fun s => fn_43_22_L2 l0 s.1 s.2) n (l1, Y) = some o → Wm 4 0 43 0 2 [(0, aR 22 l0), (1, aI l1)] [] Y (Rt none o.2) nX := by
    intro l0 n
    induction n with
    | zero => intro l1 Y h; cases h
    | succ n ih3 =>
      intro l1 Y h
      obtain ⟨q1, h, hn2⟩ := lp_succ h
      replace h : fn_43_22_L2 l0 l1 Y = some q1 := h
      unfold fn_43_22_L2 at h
      refine w_sg k43 3 (pc' := 5) (ls' := [(0, aR 22 l0), (1, aI l1)]) (st' := [aI (nI 5), aI l1]) (cs' := []) (fun _ => rfl) al0 ?_
      refine w_icmp_ge k43 rfl (fun c => ?_) (fun c => ?_)
      · replace h := if_t c h
        obtain rfl := Option.some.inj h
        obtain rfl := lpn_r hn2
        exact w_return k43 ⟨rfl, rfl⟩
      · replace h := if_f c h
        obtain ⟨hc4, h⟩ := ck_some h
        refine w_sw k43 4 (Z := (sI Y 22 l0 (ix l1) l1)) (pc' := 12) (ls' := [(0, aR 22 l0), (1, aI l1)]) (st' := []) (cs' := [vp_in l1 5, allw 22 l0]) (fun _ => rfl) rfl (al2 (vin hc4) (al1 rfl)) ?_
        replace h := wr_some h
        generalize (sI Y 22 l0 (ix l1) l1) = Y5 at h ⊢
        refine w_sg k43 1 (pc' := 15) (ls' := [(0, aR 22 l0), (1, aI (l1 + (nI 1)))]) (st' := []) (cs' := []) (fun _ => rfl) al0 ?_
        refine w_sg k43 1 (pc' := 2) (ls' := [(0, aR 22 l0), (1, aI (l1 + (nI 1)))]) (st' := []) (cs' := []) (fun _ => rfl) al0 ?_
        refine w_ls [(0, aR 22 l0), (1, aI (l1 + (nI 1)))] (lq_c rfl (lq_c rfl lq_n)) ?_
        obtain rfl := Option.some.inj h
        exact ih3 _ _ (lpn_l hn2)
  refine w_sg k43 2 (pc' := 2) (ls' := [(0, aR 22 i0), (1, aI (nI 0))]) (st' := []) (cs' := []) (fun _ => rfl) al0 ?_
  refine w_ls [(0, aR 22 i0), (1, aI (nI 0))] (lq_c rfl (lq_c rfl lq_n)) ?_
  exact L2_0 _ _ _ _ h
set_option maxRecDepth 20000 in
set_option maxHeartbeats 4000000 in
/-- BallotBus$Rows.number -/
theorem sn_43_27 (i0 : Nat) {Y : Sm} (v : Unit) (Z : Sm) (h : fn_43_27 i0 Y = some (v, Z)) : Mt 4 0 43 [aR 27 i0] Y (Rt none Z) nX := by
  refine Mt_of [(0, aR 27 i0)] ?_
  generalize ho : (v, Z) = o at h
  have hv9 : v = o.1 := congrArg Prod.fst ho
  have hZ9 : Z = o.2 := congrArg Prod.snd ho
  clear ho
  subst hv9 hZ9
  unfold fn_43_27 at h
  have L2_0 : ∀ (l0 : Nat) (n : Nat) (l1 : Int32) (Y : Sm), lp (fun s => fn_43_27_L2 l0 s.1 s.2) n (l1, Y) = some o → Wm 4 0 43 0 2 [(0, aR 27 l0), (1, aI l1)] [] Y (Rt none o.2) nX := by
    intro l0 n
    induction n with
    | zero => intro l1 Y h; cases h
    | succ n ih3 =>
      intro l1 Y h
      obtain ⟨q1, h, hn2⟩ := lp_succ h
      replace h : fn_43_27_L2 l0 l1 Y = some q1 := h
      unfold fn_43_27_L2 at h
      refine w_sg k43 3 (pc' := 5) (ls' := [(0, aR 27 l0), (1, aI l1)]) (st' := [aI (nI 5), aI l1]) (cs' := []) (fun _ => rfl) al0 ?_
      refine w_icmp_ge k43 rfl (fun c => ?_) (fun c => ?_)
      · replace h := if_t c h
        obtain rfl := Option.some.inj h
        obtain rfl := lpn_r hn2
        exact w_return k43 ⟨rfl, rfl⟩
      · replace h := if_f c h
        obtain ⟨hc4, h⟩ := ck_some h
        refine w_sw k43 4 (Z := (sI Y 27 l0 (ix l1) l1)) (pc' := 12) (ls' := [(0, aR 27 l0), (1, aI l1)]) (st' := []) (cs' := [vp_in l1 5, allw 27 l0]) (fun _ => rfl) rfl (al2 (vin hc4) (al1 rfl)) ?_
        replace h := wr_some h
        generalize (sI Y 27 l0 (ix l1) l1) = Y5 at h ⊢
        refine w_sg k43 1 (pc' := 15) (ls' := [(0, aR 27 l0), (1, aI (l1 + (nI 1)))]) (st' := []) (cs' := []) (fun _ => rfl) al0 ?_
        refine w_sg k43 1 (pc' := 2) (ls' := [(0, aR 27 l0), (1, aI (l1 + (nI 1)))]) (st' := []) (cs' := []) (fun _ => rfl) al0 ?_
        refine w_ls [(0, aR 27 l0), (1, aI (l1 + (nI 1)))] (lq_c rfl (lq_c rfl lq_n)) ?_
        obtain rfl := Option.some.inj h
        exact ih3 _ _ (lpn_l hn2)
  refine w_sg k43 2 (pc' := 2) (ls' := [(0, aR 27 i0), (1, aI (nI 0))]) (st' := []) (cs' := []) (fun _ => rfl) al0 ?_
  refine w_ls [(0, aR 27 i0), (1, aI (nI 0))] (lq_c rfl (lq_c rfl lq_n)) ?_
  exact L2_0 _ _ _ _ h
set_option maxRecDepth 20000 in
set_option maxHeartbeats 4000000 in
/-- BallotBus$Accounts.begin -/
theorem sn_1 (i0 : Nat) (i1 : Nat) {Y : Sm} (v : Unit) (Z : Sm) (h : fn_1 i0 i1 Y = some (v, Z)) : Mt 4 0 1 [aR 28 i0, aR 9 i1] Y (Rt none Z) nX := by
  refine Mt_of [(0, aR 28 i0), (1, aR 9 i1)] ?_
  generalize ho : (v, Z) = o at h
  have hv9 : v = o.1 := congrArg Prod.fst ho
  have hZ9 : Z = o.2 := congrArg Prod.snd ho
  clear ho
  subst hv9 hZ9
  unfold fn_1 at h
  have L2_0 : ∀ (l0 : Nat) (l1 : Nat) (n : Nat) (l2 : Int32) (Y : Sm), lp (fun s => fn_1_L2 l0 l1 s.1 s.2) n (l2, Y) = some o → Wm 4 0 1 0 2 [(0, aR 28 l0), (1, aR 9 l1), (2, aI l2)] [] Y (Rt none o.2) nX := by
    intro l0 l1 n
    induction n with
    | zero => intro l2 Y h; cases h
    | succ n ih3 =>
      intro l2 Y h
      obtain ⟨q1, h, hn2⟩ := lp_succ h
      replace h : fn_1_L2 l0 l1 l2 Y = some q1 := h
      unfold fn_1_L2 at h
      refine w_sg k1 2 (pc' := 5) (ls' := [(0, aR 28 l0), (1, aR 9 l1), (2, aI l2)]) (st' := [aI (nI 8), aI l2]) (cs' := []) (fun _ => rfl) al0 ?_
      refine w_icmp_ge k1 rfl (fun c => ?_) (fun c => ?_)
      · replace h := if_t c h
        obtain rfl := Option.some.inj h
        obtain rfl := lpn_r hn2
        exact w_return k1 ⟨rfl, rfl⟩
      · replace h := if_f c h
        obtain ⟨hc4, h⟩ := ck_some h
        refine w_sw k1 7 (Z := (sI Y 29 l0 (ix l2) (gI Y.1 9 l1 (ix l2)))) (pc' := 17) (ls' := [(0, aR 28 l0), (1, aR 9 l1), (2, aI l2)]) (st' := []) (cs' := [vp_in l2 8, vp_in l2 8, allw 29 l0]) (fun _ => rfl) rfl (al2 (vin hc4) (al2 (vin hc4) (al1 rfl))) ?_
        replace h := wr_some h
        generalize (sI Y 29 l0 (ix l2) (gI Y.1 9 l1 (ix l2))) = Y5 at h ⊢
        refine w_sw k1 5 (Z := (sI Y5 30 l0 (ix l2) (nI 0))) (pc' := 24) (ls' := [(0, aR 28 l0), (1, aR 9 l1), (2, aI l2)]) (st' := []) (cs' := [vp_in l2 8, allw 30 l0]) (fun _ => rfl) rfl (al2 (vin hc4) (al1 rfl)) ?_
        replace h := wr_some h
        generalize (sI Y5 30 l0 (ix l2) (nI 0)) = Y6 at h ⊢
        refine w_sw k1 5 (Z := (sI Y6 31 l0 (ix l2) (nI 0))) (pc' := 31) (ls' := [(0, aR 28 l0), (1, aR 9 l1), (2, aI l2)]) (st' := []) (cs' := [vp_in l2 8, allw 31 l0]) (fun _ => rfl) rfl (al2 (vin hc4) (al1 rfl)) ?_
        replace h := wr_some h
        generalize (sI Y6 31 l0 (ix l2) (nI 0)) = Y7 at h ⊢
        refine w_sw k1 5 (Z := (sI Y7 32 l0 (ix l2) (nI 0))) (pc' := 38) (ls' := [(0, aR 28 l0), (1, aR 9 l1), (2, aI l2)]) (st' := []) (cs' := [vp_in l2 8, allw 32 l0]) (fun _ => rfl) rfl (al2 (vin hc4) (al1 rfl)) ?_
        replace h := wr_some h
        generalize (sI Y7 32 l0 (ix l2) (nI 0)) = Y8 at h ⊢
        refine w_sw k1 5 (Z := (sI Y8 33 l0 (ix l2) (nI 0))) (pc' := 45) (ls' := [(0, aR 28 l0), (1, aR 9 l1), (2, aI l2)]) (st' := []) (cs' := [vp_in l2 8, allw 33 l0]) (fun _ => rfl) rfl (al2 (vin hc4) (al1 rfl)) ?_
        replace h := wr_some h
        generalize (sI Y8 33 l0 (ix l2) (nI 0)) = Y9 at h ⊢
        refine w_sw k1 5 (Z := (sI Y9 34 l0 (ix l2) (nI 0))) (pc' := 52) (ls' := [(0, aR 28 l0), (1, aR 9 l1), (2, aI l2)]) (st' := []) (cs' := [vp_in l2 8, allw 34 l0]) (fun _ => rfl) rfl (al2 (vin hc4) (al1 rfl)) ?_
        replace h := wr_some h
        generalize (sI Y9 34 l0 (ix l2) (nI 0)) = Y10 at h ⊢
        refine w_sg k1 1 (pc' := 55) (ls' := [(0, aR 28 l0), (1, aR 9 l1), (2, aI (l2 + (nI 1)))]) (st' := []) (cs' := []) (fun _ => rfl) al0 ?_
        refine w_sg k1 1 (pc' := 2) (ls' := [(0, aR 28 l0), (1, aR 9 l1), (2, aI (l2 + (nI 1)))]) (st' := []) (cs' := []) (fun _ => rfl) al0 ?_
        refine w_ls [(0, aR 28 l0), (1, aR 9 l1), (2, aI (l2 + (nI 1)))] (lq_c rfl (lq_c rfl (lq_c rfl lq_n))) ?_
        obtain rfl := Option.some.inj h
        exact ih3 _ _ (lpn_l hn2)
  refine w_sg k1 2 (pc' := 2) (ls' := [(0, aR 28 i0), (1, aR 9 i1), (2, aI (nI 0))]) (st' := []) (cs' := []) (fun _ => rfl) al0 ?_
  refine w_ls [(0, aR 28 i0), (1, aR 9 i1), (2, aI (nI 0))] (lq_c rfl (lq_c rfl (lq_c rfl lq_n))) ?_
  exact L2_0 _ _ _ _ _ h
set_option maxRecDepth 20000 in
set_option maxHeartbeats 4000000 in
/-- BallotBus$Requests.copyFrom -/
theorem sn_35 (i0 : Nat) (i1 : Nat) {Y : Sm} (v : Unit) (Z : Sm) (h : fn_35 i0 i1 Y = some (v, Z)) : Mt 4 0 35 [aR 12 i0, aR 12 i1] Y (Rt none Z) nX := by
  refine Mt_of [(0, aR 12 i0), (1, aR 12 i1)] ?_
  generalize ho : (v, Z) = o at h
  have hv9 : v = o.1 := congrArg Prod.fst ho
  have hZ9 : Z = o.2 := congrArg Prod.snd ho
  clear ho
  subst hv9 hZ9
  unfold fn_35 at h
  refine w_sw k35 4 (Z := (sI Y 12 i0 1 (gI Y.1 12 i1 1))) (pc' := 8) (ls' := [(0, aR 12 i0), (1, aR 12 i1)]) (st' := []) (cs' := [allw 12 i0]) (fun _ => rfl) rfl (al1 rfl) ?_
  replace h := wr_some h
  generalize (sI Y 12 i0 1 (gI Y.1 12 i1 1)) = Y1 at h ⊢
  refine w_sw k35 4 (Z := (sI Y1 12 i0 2 (gI Y1.1 12 i1 2))) (pc' := 16) (ls' := [(0, aR 12 i0), (1, aR 12 i1)]) (st' := []) (cs' := [allw 12 i0]) (fun _ => rfl) rfl (al1 rfl) ?_
  replace h := wr_some h
  generalize (sI Y1 12 i0 2 (gI Y1.1 12 i1 2)) = Y2 at h ⊢
  refine w_sg k35 2 (pc' := 18) (ls' := [(0, aR 12 i0), (1, aR 12 i1), (2, aI (nI 0))]) (st' := []) (cs' := []) (fun _ => rfl) al0 ?_
  refine w_sg k35 2 (pc' := 21) (ls' := [(0, aR 12 i0), (1, aR 12 i1), (2, aI (nI 0))]) (st' := [aI (nI 6), aI (nI 0)]) (cs' := []) (fun _ => rfl) al0 ?_
  refine w_icmp_ge k35 rfl (fun c => absurd c (by decide)) (fun _ => ?_)
  refine w_sg k35 4 (pc' := 30) (ls' := [(0, aR 12 i0), (1, aR 12 i1), (2, aI (nI 0))]) (st' := [aR 14 i1]) (cs' := [vp_in (nI 0) 6]) (fun _ => rfl) (al1 (vin rfl)) ?_
  refine w_sg k35 5 (pc' := 37) (ls' := [(0, aR 12 i0), (1, aR 12 i1), (2, aI (nI 0))]) (st' := [aR 14 i0, aI (nI 0), aR 14 i1]) (cs' := [vp_in (nI 0) 6]) (fun _ => rfl) (al1 (vin rfl)) ?_
  refine w_sw k35 3 (Z := (sC Y2 14 i1 0 14 i0 0 40)) (pc' := 43) (ls' := [(0, aR 12 i0), (1, aR 12 i1), (2, aI (nI 0))]) (st' := []) (cs' := [¬ (nI 0) < 0, ¬ (nI 0) < 0, ¬ (nI 40) < 0, 0 + 40 ≤ 40, 0 + 40 ≤ 40, allw 14 i0]) (fun _ => rfl) rfl (al2 (by decide) (al2 (by decide) (al2 (by decide) (al2 (by decide) (al2 (by decide) (al1 rfl)))))) ?_
  replace h := wr_some h
  generalize (sC Y2 14 i1 0 14 i0 0 40) = Y3 at h ⊢
  refine w_sg k35 1 (pc' := 46) (ls' := [(0, aR 12 i0), (1, aR 12 i1), (2, aI (nI 1))]) (st' := []) (cs' := []) (fun _ => rfl) al0 ?_
  refine w_sg k35 3 (pc' := 21) (ls' := [(0, aR 12 i0), (1, aR 12 i1), (2, aI (nI 1))]) (st' := [aI (nI 6), aI (nI 1)]) (cs' := []) (fun _ => rfl) al0 ?_
  refine w_icmp_ge k35 rfl (fun c => absurd c (by decide)) (fun _ => ?_)
  refine w_sg k35 4 (pc' := 30) (ls' := [(0, aR 12 i0), (1, aR 12 i1), (2, aI (nI 1))]) (st' := [aR 15 i1]) (cs' := [vp_in (nI 1) 6]) (fun _ => rfl) (al1 (vin rfl)) ?_
  refine w_sg k35 5 (pc' := 37) (ls' := [(0, aR 12 i0), (1, aR 12 i1), (2, aI (nI 1))]) (st' := [aR 15 i0, aI (nI 0), aR 15 i1]) (cs' := [vp_in (nI 1) 6]) (fun _ => rfl) (al1 (vin rfl)) ?_
  refine w_sw k35 3 (Z := (sC Y3 15 i1 0 15 i0 0 40)) (pc' := 43) (ls' := [(0, aR 12 i0), (1, aR 12 i1), (2, aI (nI 1))]) (st' := []) (cs' := [¬ (nI 0) < 0, ¬ (nI 0) < 0, ¬ (nI 40) < 0, 0 + 40 ≤ 40, 0 + 40 ≤ 40, allw 15 i0]) (fun _ => rfl) rfl (al2 (by decide) (al2 (by decide) (al2 (by decide) (al2 (by decide) (al2 (by decide) (al1 rfl)))))) ?_
  replace h := wr_some h
  generalize (sC Y3 15 i1 0 15 i0 0 40) = Y4 at h ⊢
  refine w_sg k35 1 (pc' := 46) (ls' := [(0, aR 12 i0), (1, aR 12 i1), (2, aI (nI 2))]) (st' := []) (cs' := []) (fun _ => rfl) al0 ?_
  refine w_sg k35 3 (pc' := 21) (ls' := [(0, aR 12 i0), (1, aR 12 i1), (2, aI (nI 2))]) (st' := [aI (nI 6), aI (nI 2)]) (cs' := []) (fun _ => rfl) al0 ?_
  refine w_icmp_ge k35 rfl (fun c => absurd c (by decide)) (fun _ => ?_)
  refine w_sg k35 4 (pc' := 30) (ls' := [(0, aR 12 i0), (1, aR 12 i1), (2, aI (nI 2))]) (st' := [aR 16 i1]) (cs' := [vp_in (nI 2) 6]) (fun _ => rfl) (al1 (vin rfl)) ?_
  refine w_sg k35 5 (pc' := 37) (ls' := [(0, aR 12 i0), (1, aR 12 i1), (2, aI (nI 2))]) (st' := [aR 16 i0, aI (nI 0), aR 16 i1]) (cs' := [vp_in (nI 2) 6]) (fun _ => rfl) (al1 (vin rfl)) ?_
  refine w_sw k35 3 (Z := (sC Y4 16 i1 0 16 i0 0 40)) (pc' := 43) (ls' := [(0, aR 12 i0), (1, aR 12 i1), (2, aI (nI 2))]) (st' := []) (cs' := [¬ (nI 0) < 0, ¬ (nI 0) < 0, ¬ (nI 40) < 0, 0 + 40 ≤ 40, 0 + 40 ≤ 40, allw 16 i0]) (fun _ => rfl) rfl (al2 (by decide) (al2 (by decide) (al2 (by decide) (al2 (by decide) (al2 (by decide) (al1 rfl)))))) ?_
  replace h := wr_some h
  generalize (sC Y4 16 i1 0 16 i0 0 40) = Y5 at h ⊢
  refine w_sg k35 1 (pc' := 46) (ls' := [(0, aR 12 i0), (1, aR 12 i1), (2, aI (nI 3))]) (st' := []) (cs' := []) (fun _ => rfl) al0 ?_
  refine w_sg k35 3 (pc' := 21) (ls' := [(0, aR 12 i0), (1, aR 12 i1), (2, aI (nI 3))]) (st' := [aI (nI 6), aI (nI 3)]) (cs' := []) (fun _ => rfl) al0 ?_
  refine w_icmp_ge k35 rfl (fun c => absurd c (by decide)) (fun _ => ?_)
  refine w_sg k35 4 (pc' := 30) (ls' := [(0, aR 12 i0), (1, aR 12 i1), (2, aI (nI 3))]) (st' := [aR 17 i1]) (cs' := [vp_in (nI 3) 6]) (fun _ => rfl) (al1 (vin rfl)) ?_
  refine w_sg k35 5 (pc' := 37) (ls' := [(0, aR 12 i0), (1, aR 12 i1), (2, aI (nI 3))]) (st' := [aR 17 i0, aI (nI 0), aR 17 i1]) (cs' := [vp_in (nI 3) 6]) (fun _ => rfl) (al1 (vin rfl)) ?_
  refine w_sw k35 3 (Z := (sC Y5 17 i1 0 17 i0 0 40)) (pc' := 43) (ls' := [(0, aR 12 i0), (1, aR 12 i1), (2, aI (nI 3))]) (st' := []) (cs' := [¬ (nI 0) < 0, ¬ (nI 0) < 0, ¬ (nI 40) < 0, 0 + 40 ≤ 40, 0 + 40 ≤ 40, allw 17 i0]) (fun _ => rfl) rfl (al2 (by decide) (al2 (by decide) (al2 (by decide) (al2 (by decide) (al2 (by decide) (al1 rfl)))))) ?_
  replace h := wr_some h
  generalize (sC Y5 17 i1 0 17 i0 0 40) = Y6 at h ⊢
  refine w_sg k35 1 (pc' := 46) (ls' := [(0, aR 12 i0), (1, aR 12 i1), (2, aI (nI 4))]) (st' := []) (cs' := []) (fun _ => rfl) al0 ?_
  refine w_sg k35 3 (pc' := 21) (ls' := [(0, aR 12 i0), (1, aR 12 i1), (2, aI (nI 4))]) (st' := [aI (nI 6), aI (nI 4)]) (cs' := []) (fun _ => rfl) al0 ?_
  refine w_icmp_ge k35 rfl (fun c => absurd c (by decide)) (fun _ => ?_)
  refine w_sg k35 4 (pc' := 30) (ls' := [(0, aR 12 i0), (1, aR 12 i1), (2, aI (nI 4))]) (st' := [aR 18 i1]) (cs' := [vp_in (nI 4) 6]) (fun _ => rfl) (al1 (vin rfl)) ?_
  refine w_sg k35 5 (pc' := 37) (ls' := [(0, aR 12 i0), (1, aR 12 i1), (2, aI (nI 4))]) (st' := [aR 18 i0, aI (nI 0), aR 18 i1]) (cs' := [vp_in (nI 4) 6]) (fun _ => rfl) (al1 (vin rfl)) ?_
  refine w_sw k35 3 (Z := (sC Y6 18 i1 0 18 i0 0 40)) (pc' := 43) (ls' := [(0, aR 12 i0), (1, aR 12 i1), (2, aI (nI 4))]) (st' := []) (cs' := [¬ (nI 0) < 0, ¬ (nI 0) < 0, ¬ (nI 40) < 0, 0 + 40 ≤ 40, 0 + 40 ≤ 40, allw 18 i0]) (fun _ => rfl) rfl (al2 (by decide) (al2 (by decide) (al2 (by decide) (al2 (by decide) (al2 (by decide) (al1 rfl)))))) ?_
  replace h := wr_some h
  generalize (sC Y6 18 i1 0 18 i0 0 40) = Y7 at h ⊢
  refine w_sg k35 1 (pc' := 46) (ls' := [(0, aR 12 i0), (1, aR 12 i1), (2, aI (nI 5))]) (st' := []) (cs' := []) (fun _ => rfl) al0 ?_
  refine w_sg k35 3 (pc' := 21) (ls' := [(0, aR 12 i0), (1, aR 12 i1), (2, aI (nI 5))]) (st' := [aI (nI 6), aI (nI 5)]) (cs' := []) (fun _ => rfl) al0 ?_
  refine w_icmp_ge k35 rfl (fun c => absurd c (by decide)) (fun _ => ?_)
  refine w_sg k35 4 (pc' := 30) (ls' := [(0, aR 12 i0), (1, aR 12 i1), (2, aI (nI 5))]) (st' := [aR 19 i1]) (cs' := [vp_in (nI 5) 6]) (fun _ => rfl) (al1 (vin rfl)) ?_
  refine w_sg k35 5 (pc' := 37) (ls' := [(0, aR 12 i0), (1, aR 12 i1), (2, aI (nI 5))]) (st' := [aR 19 i0, aI (nI 0), aR 19 i1]) (cs' := [vp_in (nI 5) 6]) (fun _ => rfl) (al1 (vin rfl)) ?_
  refine w_sw k35 3 (Z := (sC Y7 19 i1 0 19 i0 0 40)) (pc' := 43) (ls' := [(0, aR 12 i0), (1, aR 12 i1), (2, aI (nI 5))]) (st' := []) (cs' := [¬ (nI 0) < 0, ¬ (nI 0) < 0, ¬ (nI 40) < 0, 0 + 40 ≤ 40, 0 + 40 ≤ 40, allw 19 i0]) (fun _ => rfl) rfl (al2 (by decide) (al2 (by decide) (al2 (by decide) (al2 (by decide) (al2 (by decide) (al1 rfl)))))) ?_
  replace h := wr_some h
  generalize (sC Y7 19 i1 0 19 i0 0 40) = Y8 at h ⊢
  refine w_sg k35 1 (pc' := 46) (ls' := [(0, aR 12 i0), (1, aR 12 i1), (2, aI (nI 6))]) (st' := []) (cs' := []) (fun _ => rfl) al0 ?_
  refine w_sg k35 3 (pc' := 21) (ls' := [(0, aR 12 i0), (1, aR 12 i1), (2, aI (nI 6))]) (st' := [aI (nI 6), aI (nI 6)]) (cs' := []) (fun _ => rfl) al0 ?_
  refine w_icmp_ge k35 rfl (fun _ => ?_) (fun c => absurd c (by decide))
  obtain rfl := Option.some.inj h
  exact w_return k35 ⟨rfl, rfl⟩
set_option maxRecDepth 20000 in
set_option maxHeartbeats 4000000 in
/-- BallotBus$AnswerLog.clear -/
theorem sn_9 (i0 : Nat) {Y : Sm} (v : Unit) (Z : Sm) (h : fn_9 i0 Y = some (v, Z)) : Mt 4 0 9 [aR 35 i0] Y (Rt none Z) nX := by
  refine Mt_of [(0, aR 35 i0)] ?_
  generalize ho : (v, Z) = o at h
  have hv9 : v = o.1 := congrArg Prod.fst ho
  have hZ9 : Z = o.2 := congrArg Prod.snd ho
  clear ho
  subst hv9 hZ9
  unfold fn_9 at h
  refine w_sw k9 3 (Z := (sI Y 35 i0 1 (nI 0))) (pc' := 5) (ls' := [(0, aR 35 i0)]) (st' := []) (cs' := [allw 35 i0]) (fun _ => rfl) rfl (al1 rfl) ?_
  replace h := wr_some h
  generalize (sI Y 35 i0 1 (nI 0)) = Y1 at h ⊢
  refine w_sw k9 3 (Z := (sI Y1 35 i0 2 (nI 0))) (pc' := 10) (ls' := [(0, aR 35 i0)]) (st' := []) (cs' := [allw 35 i0]) (fun _ => rfl) rfl (al1 rfl) ?_
  replace h := wr_some h
  generalize (sI Y1 35 i0 2 (nI 0)) = Y2 at h ⊢
  obtain rfl := Option.some.inj h
  exact w_return k9 ⟨rfl, rfl⟩
set_option maxRecDepth 20000 in
set_option maxHeartbeats 4000000 in
/-- BallotBus$State.begin -/
theorem sn_71 (i0 : Nat) (i1 : Nat) {Y : Sm} (v : Unit) (Z : Sm) (h : fn_71 i0 i1 Y = some (v, Z)) : Mt 5 0 71 [aR 21 i0, aR 5 i1] Y (Rt none Z) nX := by
  refine Mt_of [(0, aR 21 i0), (1, aR 5 i1)] ?_
  generalize ho : (v, Z) = o at h
  have hv9 : v = o.1 := congrArg Prod.fst ho
  have hZ9 : Z = o.2 := congrArg Prod.snd ho
  clear ho
  subst hv9 hZ9
  unfold fn_71 at h
  have L63_0 : ∀ (l0 : Nat) (l1 : Nat) (n : Nat) (l2 : Int32) (Y : Sm) (e15 : (Sm) ⊕ (Unit × Sm)), lp (fun s => fn_71_L63 l0 l1 s.1 s.2) n (l2, Y) = some e15 → (∀ s9 : (Sm), e15 = .inl s9 → Wm 5 0 71 0 100 [(0, aR 21 l0), (1, aR 5 l1)] [] s9 (Rt none o.2) nX) → (∀ r, e15 = .inr r → r = o) → Wm 5 0 71 0 63 [(0, aR 21 l0), (1, aR 5 l1), (2, aI l2)] [] Y (Rt none o.2) nX := by
    intro l0 l1 n
    induction n with
    | zero => intro l2 Y e15 h; cases h
    | succ n ih14 =>
      intro l2 Y e15 h kE16 kR17
      obtain ⟨q12, h, hn13⟩ := lp_succ h
      replace h : fn_71_L63 l0 l1 l2 Y = some q12 := h
      unfold fn_71_L63 at h
      refine w_sg k71 2 (pc' := 65) (ls' := [(0, aR 21 l0), (1, aR 5 l1), (2, aI l2)]) (st' := [aI (nI 5), aI l2]) (cs' := []) (fun _ => rfl) al0 ?_
      refine w_icmp_ge k71 rfl (fun c => ?_) (fun c => ?_)
      · replace h := if_t c h
        refine w_ls [(0, aR 21 l0), (1, aR 5 l1)] (lq_c rfl (lq_c rfl lq_n)) ?_
        obtain rfl := Option.some.inj h
        obtain rfl := lpn_r hn13
        exact kE16 (Y) rfl
      · replace h := if_f c h
        obtain ⟨hc18, h⟩ := ck_some h
        refine w_sw k71 8 (Z := (sI Y 23 l0 (ix l2) (gI Y.1 7 l1 (ix l2)))) (pc' := 80) (ls' := [(0, aR 21 l0), (1, aR 5 l1), (2, aI l2)]) (st' := []) (cs' := [vp_in l2 5, vp_in l2 5, allw 23 l0]) (fun _ => rfl) rfl (al2 (vin hc18) (al2 (vin hc18) (al1 rfl))) ?_
        replace h := wr_some h
        generalize (sI Y 23 l0 (ix l2) (gI Y.1 7 l1 (ix l2))) = Y19 at h ⊢
        refine w_sw k71 5 (Z := (sI Y19 24 l0 (ix l2) (nI 0))) (pc' := 87) (ls' := [(0, aR 21 l0), (1, aR 5 l1), (2, aI l2)]) (st' := []) (cs' := [vp_in l2 5, allw 24 l0]) (fun _ => rfl) rfl (al2 (vin hc18) (al1 rfl)) ?_
        replace h := wr_some h
        generalize (sI Y19 24 l0 (ix l2) (nI 0)) = Y20 at h ⊢
        refine w_sw k71 5 (Z := (sJ Y20 25 l0 (ix l2) (Int64.ofNat 0))) (pc' := 94) (ls' := [(0, aR 21 l0), (1, aR 5 l1), (2, aI l2)]) (st' := []) (cs' := [vp_in l2 5, allw 25 l0]) (fun _ => rfl) rfl (al2 (vin hc18) (al1 rfl)) ?_
        replace h := wr_some h
        generalize (sJ Y20 25 l0 (ix l2) (Int64.ofNat 0)) = Y21 at h ⊢
        refine w_sg k71 1 (pc' := 97) (ls' := [(0, aR 21 l0), (1, aR 5 l1), (2, aI (l2 + (nI 1)))]) (st' := []) (cs' := []) (fun _ => rfl) al0 ?_
        refine w_sg k71 1 (pc' := 63) (ls' := [(0, aR 21 l0), (1, aR 5 l1), (2, aI (l2 + (nI 1)))]) (st' := []) (cs' := []) (fun _ => rfl) al0 ?_
        refine w_ls [(0, aR 21 l0), (1, aR 5 l1), (2, aI (l2 + (nI 1)))] (lq_c rfl (lq_c rfl (lq_c rfl lq_n))) ?_
        obtain rfl := Option.some.inj h
        exact ih14 _ _ _ (lpn_l hn13) kE16 kR17
  have L102_0 : ∀ (l0 : Nat) (l1 : Nat) (n : Nat) (l2 : Int32) (Y : Sm) (e25 : (Sm) ⊕ (Unit × Sm)), lp (fun s => fn_71_L102 l0 l1 s.1 s.2) n (l2, Y) = some e25 → (∀ s9 : (Sm), e25 = .inl s9 → Wm 5 0 71 0 123 [(0, aR 21 l0), (1, aR 5 l1)] [] s9 (Rt none o.2) nX) → (∀ r, e25 = .inr r → r = o) → Wm 5 0 71 0 102 [(0, aR 21 l0), (1, aR 5 l1), (2, aI l2)] [] Y (Rt none o.2) nX := by
    intro l0 l1 n
    induction n with
    | zero => intro l2 Y e25 h; cases h
    | succ n ih24 =>
      intro l2 Y e25 h kE26 kR27
      obtain ⟨q22, h, hn23⟩ := lp_succ h
      replace h : fn_71_L102 l0 l1 l2 Y = some q22 := h
      unfold fn_71_L102 at h
      refine w_sg k71 2 (pc' := 105) (ls' := [(0, aR 21 l0), (1, aR 5 l1), (2, aI l2)]) (st' := [aI (nI 8), aI l2]) (cs' := []) (fun _ => rfl) al0 ?_
      refine w_icmp_ge k71 rfl (fun c => ?_) (fun c => ?_)
      · replace h := if_t c h
        refine w_ls [(0, aR 21 l0), (1, aR 5 l1)] (lq_c rfl (lq_c rfl lq_n)) ?_
        obtain rfl := Option.some.inj h
        obtain rfl := lpn_r hn23
        exact kE26 (Y) rfl
      · replace h := if_f c h
        obtain ⟨hc28, h⟩ := ck_some h
        refine w_sg k71 4 (pc' := 114) (ls' := [(0, aR 21 l0), (1, aR 5 l1), (2, aI l2)]) (st' := [aR 27 (8 * l0 + ix l2)]) (cs' := [vp_in l2 8]) (fun _ => rfl) (al1 (vin hc28)) ?_
        obtain ⟨_, Y29, hv30, h⟩ := bd_some h
        refine w_cS0 k71 (sn_43_27 _ _ _ hv30) rfl (st := []) rfl ?_ (fun _ _ q => q.elim)
        refine w_sg k71 1 (pc' := 120) (ls' := [(0, aR 21 l0), (1, aR 5 l1), (2, aI (l2 + (nI 1)))]) (st' := []) (cs' := []) (fun _ => rfl) al0 ?_
        refine w_sg k71 1 (pc' := 102) (ls' := [(0, aR 21 l0), (1, aR 5 l1), (2, aI (l2 + (nI 1)))]) (st' := []) (cs' := []) (fun _ => rfl) al0 ?_
        refine w_ls [(0, aR 21 l0), (1, aR 5 l1), (2, aI (l2 + (nI 1)))] (lq_c rfl (lq_c rfl (lq_c rfl lq_n))) ?_
        obtain rfl := Option.some.inj h
        exact ih24 _ _ _ (lpn_l hn23) kE26 kR27
  have J123_0 : ∀ (l0 : Nat) (l1 : Nat) (Y : Sm), fn_71_J123 l0 l1 Y = some o → Wm 5 0 71 0 123 [(0, aR 21 l0), (1, aR 5 l1)] [] Y (Rt none o.2) nX := by
    intro l0 l1 Y h
    unfold fn_71_J123 at h
    refine w_sg k71 4 (pc' := 131) (ls' := [(0, aR 21 l0), (1, aR 5 l1)]) (st' := [aR 9 l1, aR 28 l0]) (cs' := []) (fun _ => rfl) al0 ?_
    obtain ⟨_, Y31, hv32, h⟩ := bd_some h
    refine w_cV0 k71 (sn_1 _ _ _ _ hv32) rfl (st := []) rfl ?_ (fun _ _ q => q.elim)
    refine w_sg k71 4 (pc' := 142) (ls' := [(0, aR 21 l0), (1, aR 5 l1)]) (st' := [aR 12 l1, aR 12 (l0 + 3)]) (cs' := []) (fun _ => rfl) al0 ?_
    obtain ⟨_, Y33, hv34, h⟩ := bd_some h
    refine w_cV0 k71 (sn_35 _ _ _ _ hv34) rfl (st := []) rfl ?_ (fun _ _ q => q.elim)
    refine w_sg k71 2 (pc' := 149) (ls' := [(0, aR 21 l0), (1, aR 5 l1)]) (st' := [aR 35 l0]) (cs' := []) (fun _ => rfl) al0 ?_
    obtain ⟨_, Y35, hv36, h⟩ := bd_some h
    refine w_cV0 k71 (sn_9 _ _ _ hv36) rfl (st := []) rfl ?_ (fun _ _ q => q.elim)
    obtain rfl := Option.some.inj h
    exact w_return k71 ⟨rfl, rfl⟩
  have J100_0 : ∀ (l0 : Nat) (l1 : Nat) (Y : Sm), fn_71_J100 l0 l1 Y = some o → Wm 5 0 71 0 100 [(0, aR 21 l0), (1, aR 5 l1)] [] Y (Rt none o.2) nX := by
    intro l0 l1 Y h
    unfold fn_71_J100 at h
    refine w_sg k71 2 (pc' := 102) (ls' := [(0, aR 21 l0), (1, aR 5 l1), (2, aI (nI 0))]) (st' := []) (cs' := []) (fun _ => rfl) al0 ?_
    obtain ⟨e39, hl37, hx38⟩ := exd_some h
    refine w_ls [(0, aR 21 l0), (1, aR 5 l1), (2, aI (nI 0))] (lq_c rfl (lq_c rfl (lq_c rfl lq_n))) ?_
    refine L102_0 _ _ _ _ _ e39 hl37 (fun s9 hs9 => ?_) (fun r9 hr9 => ?_)
    · subst hs9
      replace h : fn_71_J123 l0 l1 s9 = some o := hx38
      refine w_ls [(0, aR 21 l0), (1, aR 5 l1)] (lq_c rfl (lq_c rfl lq_n)) ?_
      exact J123_0 _ _ _ h
    · subst hr9
      exact hx38
  refine w_sg k71 2 (pc' := 2) (ls' := [(0, aR 21 i0), (1, aR 5 i1)]) (st' := [aR 5 i1, aR 21 i0]) (cs' := []) (fun _ => rfl) al0 ?_
  refine w_pg3 k71 rfl ?_
  replace h := wr_some h
  generalize (sG Y (i0 + 3) i1) = Y1 at h ⊢
  refine w_sw k71 3 (Z := (sI Y1 21 i0 1 (nI 0))) (pc' := 10) (ls' := [(0, aR 21 i0), (1, aR 5 i1)]) (st' := []) (cs' := [allw 21 i0]) (fun _ => rfl) rfl (al1 rfl) ?_
  replace h := wr_some h
  generalize (sI Y1 21 i0 1 (nI 0)) = Y2 at h ⊢
  refine w_sw k71 4 (Z := (sI Y2 21 i0 2 (gI Y2.1 5 i1 7))) (pc' := 18) (ls' := [(0, aR 21 i0), (1, aR 5 i1)]) (st' := []) (cs' := [allw 21 i0]) (fun _ => rfl) rfl (al1 rfl) ?_
  replace h := wr_some h
  generalize (sI Y2 21 i0 2 (gI Y2.1 5 i1 7)) = Y3 at h ⊢
  refine w_sw k71 3 (Z := (sI Y3 21 i0 3 (nI 0))) (pc' := 23) (ls' := [(0, aR 21 i0), (1, aR 5 i1)]) (st' := []) (cs' := [allw 21 i0]) (fun _ => rfl) rfl (al1 rfl) ?_
  replace h := wr_some h
  generalize (sI Y3 21 i0 3 (nI 0)) = Y4 at h ⊢
  refine w_sw k71 3 (Z := (sI Y4 21 i0 4 (nI 0))) (pc' := 28) (ls' := [(0, aR 21 i0), (1, aR 5 i1)]) (st' := []) (cs' := [allw 21 i0, (nI 0) = 0 ∨ (nI 0) = 1]) (fun _ => rfl) rfl (al2 rfl (al1 (Or.inl rfl))) ?_
  replace h := wr_some h
  generalize (sI Y4 21 i0 4 (nI 0)) = Y5 at h ⊢
  refine w_sw k71 3 (Z := (sI Y5 21 i0 5 (nI 0))) (pc' := 33) (ls' := [(0, aR 21 i0), (1, aR 5 i1)]) (st' := []) (cs' := [allw 21 i0]) (fun _ => rfl) rfl (al1 rfl) ?_
  replace h := wr_some h
  generalize (sI Y5 21 i0 5 (nI 0)) = Y6 at h ⊢
  refine w_sw k71 3 (Z := (sI Y6 21 i0 6 (nI 0))) (pc' := 38) (ls' := [(0, aR 21 i0), (1, aR 5 i1)]) (st' := []) (cs' := [allw 21 i0]) (fun _ => rfl) rfl (al1 rfl) ?_
  replace h := wr_some h
  generalize (sI Y6 21 i0 6 (nI 0)) = Y7 at h ⊢
  refine w_sw k71 5 (Z := (sI Y7 21 i0 7 (gI Y7.1 12 i1 1))) (pc' := 49) (ls' := [(0, aR 21 i0), (1, aR 5 i1)]) (st' := []) (cs' := [allw 21 i0]) (fun _ => rfl) rfl (al1 rfl) ?_
  replace h := wr_some h
  generalize (sI Y7 21 i0 7 (gI Y7.1 12 i1 1)) = Y8 at h ⊢
  refine w_sw k71 3 (Z := (sI Y8 21 i0 8 (nI 0))) (pc' := 54) (ls' := [(0, aR 21 i0), (1, aR 5 i1)]) (st' := []) (cs' := [allw 21 i0]) (fun _ => rfl) rfl (al1 rfl) ?_
  replace h := wr_some h
  generalize (sI Y8 21 i0 8 (nI 0)) = Y9 at h ⊢
  refine w_sg k71 2 (pc' := 58) (ls' := [(0, aR 21 i0), (1, aR 5 i1)]) (st' := [aR 22 i0]) (cs' := []) (fun _ => rfl) al0 ?_
  obtain ⟨_, Y10, hv11, h⟩ := bd_some h
  refine w_cS0 k71 (sn_43_22 _ _ _ hv11) rfl (st := []) rfl ?_ (fun _ _ q => q.elim)
  refine w_sg k71 2 (pc' := 63) (ls' := [(0, aR 21 i0), (1, aR 5 i1), (2, aI (nI 0))]) (st' := []) (cs' := []) (fun _ => rfl) al0 ?_
  obtain ⟨e42, hl40, hx41⟩ := exd_some h
  refine w_ls [(0, aR 21 i0), (1, aR 5 i1), (2, aI (nI 0))] (lq_c rfl (lq_c rfl (lq_c rfl lq_n))) ?_
  refine L63_0 _ _ _ _ _ e42 hl40 (fun s9 hs9 => ?_) (fun r9 hr9 => ?_)
  · subst hs9
    replace h : fn_71_J100 i0 i1 s9 = some o := hx41
    refine w_ls [(0, aR 21 i0), (1, aR 5 i1)] (lq_c rfl (lq_c rfl lq_n)) ?_
    exact J100_0 _ _ _ h
  · subst hr9
    exact hx41
set_option maxRecDepth 20000 in
set_option maxHeartbeats 4000000 in
/-- BallotBus.parse -/
theorem sn_106 {Y : Sm} (v : Int32) (Z : Sm) (h : fn_106 Y = some (v, Z)) : Mt 11 0 106 [aR 0 0] Y (Rt (some (aI v)) Z) nX := by
  refine Mt_of [(0, aR 0 0)] ?_
  generalize ho : (v, Z) = o at h
  have hv9 : v = o.1 := congrArg Prod.fst ho
  have hZ9 : Z = o.2 := congrArg Prod.snd ho
  clear ho
  subst hv9 hZ9
  unfold fn_106 at h
  refine w_sg k106 4 (pc' := 8) (ls' := [(0, aR 0 0)]) (st' := [aR 5 (Y.2 1), aR 3 0]) (cs' := []) (fun _ => rfl) al0 ?_
  obtain ⟨v3, Y1, hv2, h⟩ := bd_some h
  refine w_cV1 k106 (sn_59 _ _ _ hv2) rfl (st := []) rfl ?_ (fun _ _ q => q.elim)
  refine w_sg k106 1 (pc' := 12) (ls' := [(0, aR 0 0), (1, aI v3)]) (st' := []) (cs' := []) (fun _ => rfl) al0 ?_
  refine w_sw k106 4 (Z := (sI Y1 1 0 1 (nI 0))) (pc' := 20) (ls' := [(0, aR 0 0), (1, aI v3)]) (st' := []) (cs' := [allw 1 0]) (fun _ => rfl) rfl (al1 rfl) ?_
  replace h := wr_some h
  generalize (sI Y1 1 0 1 (nI 0)) = Y4 at h ⊢
  refine w_sw k106 5 (Z := (sI Y4 0 0 4 (gI Y4.1 3 0 3))) (pc' := 31) (ls' := [(0, aR 0 0), (1, aI v3)]) (st' := []) (cs' := [allw 0 0]) (fun _ => rfl) rfl (al1 rfl) ?_
  replace h := wr_some h
  generalize (sI Y4 0 0 4 (gI Y4.1 3 0 3)) = Y5 at h ⊢
  refine w_sw k106 5 (Z := (sI Y5 0 0 5 (gI Y5.1 3 0 4))) (pc' := 42) (ls' := [(0, aR 0 0), (1, aI v3)]) (st' := []) (cs' := [allw 0 0]) (fun _ => rfl) rfl (al1 rfl) ?_
  replace h := wr_some h
  generalize (sI Y5 0 0 5 (gI Y5.1 3 0 4)) = Y6 at h ⊢
  refine w_sg k106 1 (pc' := 43) (ls' := [(0, aR 0 0), (1, aI v3)]) (st' := [aI v3]) (cs' := []) (fun _ => rfl) al0 ?_
  refine w_if_ne k106 rfl (fun c => ?_) (fun c => ?_)
  · replace h := if_f c h
    refine w_sg k106 3 (pc' := 53) (ls' := [(0, aR 0 0), (1, aI v3), (2, aR 5 (Y6.2 0))]) (st' := []) (cs' := []) (fun _ => rfl) al0 ?_
    refine w_sg k106 3 (pc' := 58) (ls' := [(0, aR 0 0), (1, aI v3), (2, aR 5 (Y6.2 0))]) (st' := [aR 5 (Y6.2 1), aR 0 0]) (cs' := []) (fun _ => rfl) al0 ?_
    refine w_pg0 k106 rfl ?_
    replace h := wr_some h
    generalize (sG Y6 0 (Y6.2 1)) = Y7 at h ⊢
    refine w_sg k106 2 (pc' := 63) (ls' := [(0, aR 0 0), (1, aI v3), (2, aR 5 (Y6.2 0))]) (st' := [aR 5 (Y6.2 0), aR 0 0]) (cs' := []) (fun _ => rfl) al0 ?_
    refine w_pg1 k106 rfl ?_
    replace h := wr_some h
    generalize (sG Y7 1 (Y6.2 0)) = Y8 at h ⊢
    refine w_sg k106 4 (pc' := 74) (ls' := [(0, aR 0 0), (1, aI v3), (2, aR 5 (Y6.2 0))]) (st' := [aR 5 (Y8.2 0), aR 21 0]) (cs' := []) (fun _ => rfl) al0 ?_
    obtain ⟨_, Y9, hv10, h⟩ := bd_some h
    refine w_cV0 k106 (sn_71 _ _ _ _ hv10) rfl (st := []) rfl ?_ (fun _ _ q => q.elim)
    refine w_sw k106 4 (Z := (sI Y9 37 0 2 (nI 0))) (pc' := 85) (ls' := [(0, aR 0 0), (1, aI v3), (2, aR 5 (Y6.2 0))]) (st' := []) (cs' := [allw 37 0]) (fun _ => rfl) rfl (al1 rfl) ?_
    replace h := wr_some h
    generalize (sI Y9 37 0 2 (nI 0)) = Y11 at h ⊢
    refine w_sw k106 3 (Z := (sI Y11 0 0 11 (nI 0))) (pc' := 90) (ls' := [(0, aR 0 0), (1, aI v3), (2, aR 5 (Y6.2 0))]) (st' := []) (cs' := [allw 0 0, (nI 0) = 0 ∨ (nI 0) = 1]) (fun _ => rfl) rfl (al2 rfl (al1 (Or.inl rfl))) ?_
    replace h := wr_some h
    generalize (sI Y11 0 0 11 (nI 0)) = Y12 at h ⊢
    refine w_sg k106 3 (pc' := 97) (ls' := [(0, aR 0 0), (1, aI v3), (2, aR 5 (Y6.2 0))]) (st' := [aI (gI Y12.1 5 (Y12.2 0) 0)]) (cs' := []) (fun _ => rfl) al0 ?_
    obtain rfl := Option.some.inj h
    exact w_ireturn k106 ⟨rfl, rfl⟩
  · replace h := if_t c h
    refine w_sg k106 1 (pc' := 47) (ls' := [(0, aR 0 0), (1, aI v3)]) (st' := [aI (-1 : Int32)]) (cs' := []) (fun _ => rfl) al0 ?_
    obtain rfl := Option.some.inj h
    exact w_ireturn k106 ⟨rfl, rfl⟩
set_option maxRecDepth 20000 in
set_option maxHeartbeats 4000000 in
/-- BallotBus$Requests.waiting -/
theorem sn_41 (i0 : Nat) {Y : Sm} (v : Int32) (Z : Sm) (h : fn_41 i0 Y = some (v, Z)) : Mt 4 0 41 [aR 12 i0] Y (Rt (some (aI v)) Z) nX := by
  refine Mt_of [(0, aR 12 i0)] ?_
  generalize ho : (v, Z) = o at h
  have hv9 : v = o.1 := congrArg Prod.fst ho
  have hZ9 : Z = o.2 := congrArg Prod.snd ho
  clear ho
  subst hv9 hZ9
  unfold fn_41 at h
  refine w_sg k41 3 (pc' := 5) (ls' := [(0, aR 12 i0)]) (st' := [aI (-1 : Int32), aI (gI Y.1 12 i0 2)]) (cs' := []) (fun _ => rfl) al0 ?_
  refine w_icmp_ne k41 rfl (fun c => ?_) (fun c => ?_)
  · replace h := if_f c h
    refine w_sg k41 4 (pc' := 21) (ls' := [(0, aR 12 i0)]) (st' := [aI ((gI Y.1 12 i0 1) - (nI 1))]) (cs' := []) (fun _ => rfl) al0 ?_
    obtain rfl := Option.some.inj h
    exact w_ireturn k41 ⟨rfl, rfl⟩
  · replace h := if_t c h
    refine w_sg k41 3 (pc' := 21) (ls' := [(0, aR 12 i0)]) (st' := [aI (gI Y.1 12 i0 1)]) (cs' := []) (fun _ => rfl) al0 ?_
    obtain rfl := Option.some.inj h
    exact w_ireturn k41 ⟨rfl, rfl⟩
set_option maxRecDepth 20000 in
set_option maxHeartbeats 4000000 in
/-- BallotBus.count -/
theorem sn_109 (a1 : Int32) {Y : Sm} (v : Int32) (Z : Sm) (h : fn_109 a1 Y = some (v, Z)) : Mt 5 0 109 [aR 0 0, aI a1] Y (Rt (some (aI v)) Z) nX := by
  refine Mt_of [(0, aR 0 0), (1, aI a1)] ?_
  generalize ho : (v, Z) = o at h
  have hv9 : v = o.1 := congrArg Prod.fst ho
  have hZ9 : Z = o.2 := congrArg Prod.snd ho
  clear ho
  subst hv9 hZ9
  unfold fn_109 at h
  have J23_0 : ∀ (l1 : Int32) (Y : Sm), fn_109_J23 l1 Y = some o → Wm 5 0 109 0 23 [(0, aR 0 0), (1, aI l1)] [] Y (Rt (some (aI o.1)) o.2) nX := by
    intro l1 Y h
    unfold fn_109_J23 at h
    refine w_sg k109 1 (pc' := 24) (ls' := [(0, aR 0 0), (1, aI l1)]) (st' := [aI l1]) (cs' := []) (fun _ => rfl) al0 ?_
    by_cases c1 : l1 = (nI 0)
    · replace h := if_t c1 h
      refine w_swAt k109 0 rfl rfl rfl rfl c1 ?_
      refine w_sg k109 3 (pc' := 111) (ls' := [(0, aR 0 0), (1, aI l1)]) (st' := [aI (gI Y.1 5 (Y.2 0) 0)]) (cs' := []) (fun _ => rfl) al0 ?_
      obtain rfl := Option.some.inj h
      exact w_ireturn k109 ⟨rfl, rfl⟩
    replace h := if_f c1 h
    by_cases c2 : l1 = (nI 1)
    · replace h := if_t c2 h
      refine w_swAt k109 1 rfl rfl rfl rfl c2 ?_
      refine w_sg k109 3 (pc' := 119) (ls' := [(0, aR 0 0), (1, aI l1)]) (st' := [aI (gI Y.1 5 (Y.2 0) 3)]) (cs' := []) (fun _ => rfl) al0 ?_
      obtain rfl := Option.some.inj h
      exact w_ireturn k109 ⟨rfl, rfl⟩
    replace h := if_f c2 h
    by_cases c3 : l1 = (nI 2)
    · replace h := if_t c3 h
      refine w_swAt k109 2 rfl rfl rfl rfl c3 ?_
      refine w_sg k109 3 (pc' := 127) (ls' := [(0, aR 0 0), (1, aI l1)]) (st' := [aI (gI Y.1 21 0 1)]) (cs' := []) (fun _ => rfl) al0 ?_
      obtain rfl := Option.some.inj h
      exact w_ireturn k109 ⟨rfl, rfl⟩
    replace h := if_f c3 h
    by_cases c4 : l1 = (nI 3)
    · replace h := if_t c4 h
      refine w_swAt k109 3 rfl rfl rfl rfl c4 ?_
      refine w_sg k109 3 (pc' := 135) (ls' := [(0, aR 0 0), (1, aI l1)]) (st' := [aI (gI Y.1 21 0 2)]) (cs' := []) (fun _ => rfl) al0 ?_
      obtain rfl := Option.some.inj h
      exact w_ireturn k109 ⟨rfl, rfl⟩
    replace h := if_f c4 h
    by_cases c5 : l1 = (nI 4)
    · replace h := if_t c5 h
      refine w_swAt k109 4 rfl rfl rfl rfl c5 ?_
      refine w_sg k109 1 (pc' := 196) (ls' := [(0, aR 0 0), (1, aI l1)]) (st' := [aI (-1 : Int32)]) (cs' := []) (fun _ => rfl) al0 ?_
      obtain rfl := Option.some.inj h
      exact w_ireturn k109 ⟨rfl, rfl⟩
    replace h := if_f c5 h
    by_cases c6 : l1 = (nI 5)
    · replace h := if_t c6 h
      refine w_swAt k109 5 rfl rfl rfl rfl c6 ?_
      refine w_sg k109 1 (pc' := 196) (ls' := [(0, aR 0 0), (1, aI l1)]) (st' := [aI (-1 : Int32)]) (cs' := []) (fun _ => rfl) al0 ?_
      obtain rfl := Option.some.inj h
      exact w_ireturn k109 ⟨rfl, rfl⟩
    replace h := if_f c6 h
    by_cases c7 : l1 = (nI 6)
    · replace h := if_t c7 h
      refine w_swAt k109 6 rfl rfl rfl rfl c7 ?_
      refine w_sg k109 1 (pc' := 196) (ls' := [(0, aR 0 0), (1, aI l1)]) (st' := [aI (-1 : Int32)]) (cs' := []) (fun _ => rfl) al0 ?_
      obtain rfl := Option.some.inj h
      exact w_ireturn k109 ⟨rfl, rfl⟩
    replace h := if_f c7 h
    by_cases c8 : l1 = (nI 7)
    · replace h := if_t c8 h
      refine w_swAt k109 7 rfl rfl rfl rfl c8 ?_
      refine w_sg k109 1 (pc' := 196) (ls' := [(0, aR 0 0), (1, aI l1)]) (st' := [aI (-1 : Int32)]) (cs' := []) (fun _ => rfl) al0 ?_
      obtain rfl := Option.some.inj h
      exact w_ireturn k109 ⟨rfl, rfl⟩
    replace h := if_f c8 h
    by_cases c9 : l1 = (nI 8)
    · replace h := if_t c9 h
      refine w_swAt k109 8 rfl rfl rfl rfl c9 ?_
      refine w_sg k109 1 (pc' := 196) (ls' := [(0, aR 0 0), (1, aI l1)]) (st' := [aI (-1 : Int32)]) (cs' := []) (fun _ => rfl) al0 ?_
      obtain rfl := Option.some.inj h
      exact w_ireturn k109 ⟨rfl, rfl⟩
    replace h := if_f c9 h
    by_cases c10 : l1 = (nI 9)
    · replace h := if_t c10 h
      refine w_swAt k109 9 rfl rfl rfl rfl c10 ?_
      refine w_sg k109 3 (pc' := 143) (ls' := [(0, aR 0 0), (1, aI l1)]) (st' := [aR 12 3]) (cs' := []) (fun _ => rfl) al0 ?_
      obtain ⟨v19, Y17, hv18, h⟩ := bd_some h
      refine w_cV1 k109 (sn_41 _ _ _ hv18) rfl (st := []) rfl ?_ (fun _ _ q => q.elim)
      obtain rfl := Option.some.inj h
      exact w_ireturn k109 ⟨rfl, rfl⟩
    replace h := if_f c10 h
    by_cases c11 : l1 = (nI 10)
    · replace h := if_t c11 h
      refine w_swAt k109 10 rfl rfl rfl rfl c11 ?_
      refine w_sg k109 3 (pc' := 154) (ls' := [(0, aR 0 0), (1, aI l1)]) (st' := [aI (gI Y.1 21 0 8)]) (cs' := []) (fun _ => rfl) al0 ?_
      obtain rfl := Option.some.inj h
      exact w_ireturn k109 ⟨rfl, rfl⟩
    replace h := if_f c11 h
    by_cases c12 : l1 = (nI 11)
    · replace h := if_t c12 h
      refine w_swAt k109 11 rfl rfl rfl rfl c12 ?_
      refine w_sg k109 3 (pc' := 162) (ls' := [(0, aR 0 0), (1, aI l1)]) (st' := [aI (gI Y.1 21 0 7)]) (cs' := []) (fun _ => rfl) al0 ?_
      obtain rfl := Option.some.inj h
      exact w_ireturn k109 ⟨rfl, rfl⟩
    replace h := if_f c12 h
    by_cases c13 : l1 = (nI 12)
    · replace h := if_t c13 h
      refine w_swAt k109 12 rfl rfl rfl rfl c13 ?_
      refine w_sg k109 3 (pc' := 170) (ls' := [(0, aR 0 0), (1, aI l1)]) (st' := [aI (gI Y.1 21 0 3)]) (cs' := []) (fun _ => rfl) al0 ?_
      obtain rfl := Option.some.inj h
      exact w_ireturn k109 ⟨rfl, rfl⟩
    replace h := if_f c13 h
    by_cases c14 : l1 = (nI 13)
    · replace h := if_t c14 h
      refine w_swAt k109 13 rfl rfl rfl rfl c14 ?_
      refine w_sg k109 3 (pc' := 178) (ls' := [(0, aR 0 0), (1, aI l1)]) (st' := [aI (gI Y.1 21 0 5)]) (cs' := []) (fun _ => rfl) al0 ?_
      obtain rfl := Option.some.inj h
      exact w_ireturn k109 ⟨rfl, rfl⟩
    replace h := if_f c14 h
    by_cases c15 : l1 = (nI 14)
    · replace h := if_t c15 h
      refine w_swAt k109 14 rfl rfl rfl rfl c15 ?_
      refine w_sg k109 3 (pc' := 186) (ls' := [(0, aR 0 0), (1, aI l1)]) (st' := [aI (gI Y.1 21 0 6)]) (cs' := []) (fun _ => rfl) al0 ?_
      obtain rfl := Option.some.inj h
      exact w_ireturn k109 ⟨rfl, rfl⟩
    replace h := if_f c15 h
    by_cases c16 : l1 = (nI 15)
    · replace h := if_t c16 h
      refine w_swAt k109 15 rfl rfl rfl rfl c16 ?_
      refine w_sg k109 3 (pc' := 194) (ls' := [(0, aR 0 0), (1, aI l1)]) (st' := [aI (gI Y.1 37 0 2)]) (cs' := []) (fun _ => rfl) al0 ?_
      obtain rfl := Option.some.inj h
      exact w_ireturn k109 ⟨rfl, rfl⟩
    replace h := if_f c16 h
    refine w_swOut k109 rfl rfl rfl (nsw_s (nsw_s (nsw_s (nsw_s (nsw_s (nsw_s (nsw_s (nsw_s (nsw_s (nsw_s (nsw_s (nsw_s (nsw_s (nsw_s (nsw_s (nsw_s nsw_0 c1) c2) c3) c4) c5) c6) c7) c8) c9) c10) c11) c12) c13) c14) c15) c16) ?_
    refine w_sg k109 1 (pc' := 196) (ls' := [(0, aR 0 0), (1, aI l1)]) (st' := [aI (-1 : Int32)]) (cs' := []) (fun _ => rfl) al0 ?_
    obtain rfl := Option.some.inj h
    exact w_ireturn k109 ⟨rfl, rfl⟩
  refine w_sg k109 2 (pc' := 2) (ls' := [(0, aR 0 0), (1, aI a1)]) (st' := [aI (nI 4), aI a1]) (cs' := []) (fun _ => rfl) al0 ?_
  refine w_icmp_lt k109 rfl (fun c => ?_) (fun c => ?_)
  · replace h := if_t c h
    refine w_ls [(0, aR 0 0), (1, aI a1)] (lq_c rfl (lq_c rfl lq_n)) ?_
    exact J23_0 _ _ h
  · replace h := if_f c h
    refine w_sg k109 2 (pc' := 8) (ls' := [(0, aR 0 0), (1, aI a1)]) (st' := [aI (nI 9), aI a1]) (cs' := []) (fun _ => rfl) al0 ?_
    refine w_icmp_ge k109 rfl (fun c => ?_) (fun c => ?_)
    · replace h := if_t c h
      refine w_ls [(0, aR 0 0), (1, aI a1)] (lq_c rfl (lq_c rfl lq_n)) ?_
      exact J23_0 _ _ h
    · replace h := if_f c h
      obtain ⟨hc20, h⟩ := ck_some h
      refine w_sg k109 7 (pc' := 22) (ls' := [(0, aR 0 0), (1, aI a1)]) (st' := [aI (gI Y.1 11 (Y.2 0) (ix (a1 - (nI 4))))]) (cs' := [vp_in (a1 - (nI 4)) 5]) (fun _ => rfl) (al1 (vin hc20)) ?_
      obtain rfl := Option.some.inj h
      exact w_ireturn k109 ⟨rfl, rfl⟩
set_option maxRecDepth 20000 in
set_option maxHeartbeats 4000000 in
/-- BallotBus.checkAsker -/
theorem sn_154 (a1 : Int32) {Y : Sm} (v : (Unit ⊕ Nat)) (Z : Sm) (h : fn_154 a1 Y = some (v, Z)) : Mt 6 1 154 [aR 0 0, aI a1] Y (Pz (fun _ => none) v Z) (Ez v Z) := by
  refine Mt_of [(0, aR 0 0), (1, aI a1)] ?_
  generalize ho : (v, Z) = o at h
  have hv9 : v = o.1 := congrArg Prod.fst ho
  have hZ9 : Z = o.2 := congrArg Prod.snd ho
  clear ho
  subst hv9 hZ9
  unfold fn_154 at h
  refine w_sg k154 1 (pc' := 1) (ls' := [(0, aR 0 0), (1, aI a1)]) (st' := [aI a1]) (cs' := []) (fun _ => rfl) al0 ?_
  refine w_if_lt k154 rfl (fun c => ?_) (fun c => ?_)
  · replace h := if_t c h
    obtain rfl := Option.some.inj h
    exact w_throw k154 rfl rfl Ez_r
  · replace h := if_f c h
    refine w_sg k154 4 (pc' := 12) (ls' := [(0, aR 0 0), (1, aI a1)]) (st' := [aI (gI Y.1 5 (Y.2 0) 3), aI a1]) (cs' := []) (fun _ => rfl) al0 ?_
    refine w_icmp_lt k154 rfl (fun c => ?_) (fun c => ?_)
    · replace h := if_t c h
      obtain rfl := Option.some.inj h
      exact w_return k154 Pz_l
    · replace h := if_f c h
      obtain rfl := Option.some.inj h
      exact w_throw k154 rfl rfl Ez_r
set_option maxRecDepth 20000 in
set_option maxHeartbeats 4000000 in
/-- BallotBus$State.isHeard -/
theorem sn_73 (i0 : Nat) (a1 : Int32) {Y : Sm} (v : Int32) (Z : Sm) (h : fn_73 i0 a1 Y = some (v, Z)) : Mt 4 0 73 [aR 21 i0, aI a1] Y (Rt (some (aI v)) Z) nX := by
  refine Mt_of [(0, aR 21 i0), (1, aI a1)] ?_
  generalize ho : (v, Z) = o at h
  have hv9 : v = o.1 := congrArg Prod.fst ho
  have hZ9 : Z = o.2 := congrArg Prod.snd ho
  clear ho
  subst hv9 hZ9
  unfold fn_73 at h
  obtain ⟨hc1, h⟩ := ck_some h
  refine w_sg k73 8 (pc' := 16) (ls' := [(0, aR 21 i0), (1, aI a1)]) (st' := [aR 11 (Y.2 (i0 + 3)), aI (gI Y.1 31 i0 (ix a1))]) (cs' := [vp_in a1 8]) (fun _ => rfl) (al1 (vin hc1)) ?_
  refine w_sg k73 2 (pc' := 18) (ls' := [(0, aR 21 i0), (1, aI a1)]) (st' := [aI (gI Y.1 11 (Y.2 (i0 + 3)) 4), aI (gI Y.1 31 i0 (ix a1))]) (cs' := [vp_in (nI 4) 5]) (fun _ => rfl) (al1 (vin rfl)) ?_
  refine w_icmp_ge k73 rfl (fun c => ?_) (fun c => ?_)
  · replace h := if_t c h
    refine w_sg k73 1 (pc' := 26) (ls' := [(0, aR 21 i0), (1, aI a1)]) (st' := [aI (nI 0)]) (cs' := []) (fun _ => rfl) al0 ?_
    obtain rfl := Option.some.inj h
    exact w_zreturn k73 (Or.inl rfl) ⟨rfl, rfl⟩
  · replace h := if_f c h
    refine w_sg k73 2 (pc' := 26) (ls' := [(0, aR 21 i0), (1, aI a1)]) (st' := [aI (nI 1)]) (cs' := []) (fun _ => rfl) al0 ?_
    obtain rfl := Option.some.inj h
    exact w_zreturn k73 (Or.inr rfl) ⟨rfl, rfl⟩
