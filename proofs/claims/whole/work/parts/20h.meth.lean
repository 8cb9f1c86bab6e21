/-! the code of the methods does what their functions say (printed by wip/whole/gen20.py) -/
set_option maxRecDepth 20000 in
set_option maxHeartbeats 4000000 in
/-- BallotBusModel.answers -/
theorem sn_204 (a1 : Int32) {Y : Sm} (v : Unit) (Z : Sm) (h : fn_204 a1 Y = some (v, Z)) : Mt 5 0 204 [aR 48 0, aI a1] Y (Rt none Z) nX := by
  refine Mt_of [(0, aR 48 0), (1, aI a1)] ?_
  generalize ho : (v, Z) = o at h
  have hv9 : v = o.1 := congrArg Prod.fst ho
  have hZ9 : Z = o.2 := congrArg Prod.snd ho
  clear ho
  subst hv9 hZ9
  unfold fn_204 at h
  refine w_sg k204 3 (pc' := 3) (ls' := [(0, aR 48 0), (1, aI a1)]) (st' := [aI (nI 1), aI a1, aR 48 0]) (cs' := []) (fun _ => rfl) al0 ?_
  obtain ⟨v3, Y1, hv2, h⟩ := bd_some h
  refine w_cV1 k204 (sn_178 _ _ _ _ hv2) rfl (st := []) rfl ?_ (fun _ _ q => q.elim)
  refine w_sg k204 1 (pc' := 7) (ls' := [(0, aR 48 0), (1, aI a1), (2, aI v3)]) (st' := []) (cs' := []) (fun _ => rfl) al0 ?_
  refine w_sg k204 3 (pc' := 10) (ls' := [(0, aR 48 0), (1, aI a1), (2, aI v3)]) (st' := [aI (nI 2), aI a1, aR 48 0]) (cs' := []) (fun _ => rfl) al0 ?_
  obtain ⟨v6, Y4, hv5, h⟩ := bd_some h
  refine w_cV1 k204 (sn_178 _ _ _ _ hv5) rfl (st := []) rfl ?_ (fun _ _ q => q.elim)
  refine w_sg k204 1 (pc' := 14) (ls' := [(0, aR 48 0), (1, aI a1), (2, aI v3), (3, aI v6)]) (st' := []) (cs' := []) (fun _ => rfl) al0 ?_
  refine w_sg k204 3 (pc' := 17) (ls' := [(0, aR 48 0), (1, aI a1), (2, aI v3), (3, aI v6)]) (st' := [aI (nI 3), aI a1, aR 48 0]) (cs' := []) (fun _ => rfl) al0 ?_
  obtain ⟨v9, Y7, hv8, h⟩ := bd_some h
  refine w_cV1 k204 (sn_178 _ _ _ _ hv8) rfl (st := []) rfl ?_ (fun _ _ q => q.elim)
  refine w_sg k204 1 (pc' := 22) (ls' := [(0, aR 48 0), (1, aI a1), (2, aI v3), (3, aI v6), (4, aI v9)]) (st' := []) (cs' := []) (fun _ => rfl) al0 ?_
  obtain ⟨hc10, h⟩ := ck_some h
  refine w_sg k204 7 (pc' := 33) (ls' := [(0, aR 48 0), (1, aI a1), (2, aI v3), (3, aI v6), (4, aI v9)]) (st' := [aI (gI Y7.1 52 0 (ix ((nI 28) + v3))), aI v9]) (cs' := [vp_in ((nI 28) + v3) 718]) (fun _ => rfl) (al1 (vin hc10)) ?_
  obtain ⟨v13, Y11, hv12, h⟩ := bd_some h
  refine w_cS1 k204 (sn_168 _ _ _ _ hv12) rfl (st := []) rfl ?_ (fun _ _ q => q.elim)
  refine w_sg k204 1 (pc' := 38) (ls' := [(0, aR 48 0), (1, aI a1), (2, aI v3), (3, aI v6), (4, aI v9), (5, aI v13)]) (st' := []) (cs' := []) (fun _ => rfl) al0 ?_
  refine w_sg k204 8 (pc' := 52) (ls' := [(0, aR 48 0), (1, aI a1), (2, aI v3), (3, aI v6), (4, aI v9), (5, aI v13)]) (st' := [aI (nI 28), aR 52 0, aI ((nI 28) + v3), aR 52 0]) (cs' := []) (fun _ => rfl) al0 ?_
  refine w_sw k204 6 (Z := (sI Y11 52 0 (ix ((nI 28) + v3)) ((gI Y11.1 52 0 (ix ((nI 28) + v3))) - v13))) (pc' := 59) (ls' := [(0, aR 48 0), (1, aI a1), (2, aI v3), (3, aI v6), (4, aI v9), (5, aI v13)]) (st' := []) (cs' := [vp_in ((nI 28) + v3) 718, vp_in ((nI 28) + v3) 718, allw 52 0]) (fun _ => rfl) rfl (al2 (vin hc10) (al2 (vin hc10) (al1 rfl))) ?_
  replace h := wr_some h
  generalize (sI Y11 52 0 (ix ((nI 28) + v3)) ((gI Y11.1 52 0 (ix ((nI 28) + v3))) - v13)) = Y14 at h ⊢
  refine w_sg k204 8 (pc' := 74) (ls' := [(0, aR 48 0), (1, aI a1), (2, aI v3), (3, aI v6), (4, aI v9), (5, aI v13)]) (st' := [aR 52 0, aI (nI 999), aI ((nI 20) + v3), aR 52 0]) (cs' := []) (fun _ => rfl) al0 ?_
  obtain ⟨hc15, h⟩ := ck_some h
  refine w_sg k204 8 (pc' := 85) (ls' := [(0, aR 48 0), (1, aI a1), (2, aI v3), (3, aI v6), (4, aI v9), (5, aI v13)]) (st' := [aI (((gI Y14.1 52 0 (ix ((nI 20) + v3))) + v9) - v13), aI (nI 999), aI ((nI 20) + v3), aR 52 0]) (cs' := [vp_in ((nI 20) + v3) 718]) (fun _ => rfl) (al1 (vin hc15)) ?_
  obtain ⟨v18, Y16, hv17, h⟩ := bd_some h
  refine w_cS1 k204 (sn_168 _ _ _ _ hv17) rfl (st := [aI ((nI 20) + v3), aR 52 0]) rfl ?_ (fun _ _ q => q.elim)
  refine w_sw k204 1 (Z := (sI Y16 52 0 (ix ((nI 20) + v3)) v18)) (pc' := 89) (ls' := [(0, aR 48 0), (1, aI a1), (2, aI v3), (3, aI v6), (4, aI v9), (5, aI v13)]) (st' := []) (cs' := [vp_in ((nI 20) + v3) 718, allw 52 0]) (fun _ => rfl) rfl (al2 (vin hc15) (al1 rfl)) ?_
  replace h := wr_some h
  generalize (sI Y16 52 0 (ix ((nI 20) + v3)) v18) = Y19 at h ⊢
  refine w_sg k204 8 (pc' := 103) (ls' := [(0, aR 48 0), (1, aI a1), (2, aI v3), (3, aI v6), (4, aI v9), (5, aI v13)]) (st' := [aI (nI 52), aR 52 0, aI ((nI 52) + v3), aR 52 0]) (cs' := []) (fun _ => rfl) al0 ?_
  obtain ⟨hc20, h⟩ := ck_some h
  refine w_sw k204 6 (Z := (sI Y19 52 0 (ix ((nI 52) + v3)) ((gI Y19.1 52 0 (ix ((nI 52) + v3))) + (nI 1)))) (pc' := 109) (ls' := [(0, aR 48 0), (1, aI a1), (2, aI v3), (3, aI v6), (4, aI v9), (5, aI v13)]) (st' := []) (cs' := [vp_in ((nI 52) + v3) 718, vp_in ((nI 52) + v3) 718, allw 52 0]) (fun _ => rfl) rfl (al2 (vin hc20) (al2 (vin hc20) (al1 rfl))) ?_
  replace h := wr_some h
  generalize (sI Y19 52 0 (ix ((nI 52) + v3)) ((gI Y19.1 52 0 (ix ((nI 52) + v3))) + (nI 1))) = Y21 at h ⊢
  refine w_sg k204 8 (pc' := 123) (ls' := [(0, aR 48 0), (1, aI a1), (2, aI v3), (3, aI v6), (4, aI v9), (5, aI v13)]) (st' := [aI (nI 60), aR 52 0, aI ((nI 60) + v3), aR 52 0]) (cs' := []) (fun _ => rfl) al0 ?_
  obtain ⟨hc22, h⟩ := ck_some h
  refine w_sw k204 6 (Z := (sI Y21 52 0 (ix ((nI 60) + v3)) ((gI Y21.1 52 0 (ix ((nI 60) + v3))) + v9))) (pc' := 130) (ls' := [(0, aR 48 0), (1, aI a1), (2, aI v3), (3, aI v6), (4, aI v9), (5, aI v13)]) (st' := []) (cs' := [vp_in ((nI 60) + v3) 718, vp_in ((nI 60) + v3) 718, allw 52 0]) (fun _ => rfl) rfl (al2 (vin hc22) (al2 (vin hc22) (al1 rfl))) ?_
  replace h := wr_some h
  generalize (sI Y21 52 0 (ix ((nI 60) + v3)) ((gI Y21.1 52 0 (ix ((nI 60) + v3))) + v9)) = Y23 at h ⊢
  refine w_sg k204 8 (pc' := 144) (ls' := [(0, aR 48 0), (1, aI a1), (2, aI v3), (3, aI v6), (4, aI v9), (5, aI v13)]) (st' := [aI (nI 68), aR 52 0, aI ((nI 68) + v6), aR 52 0]) (cs' := []) (fun _ => rfl) al0 ?_
  obtain ⟨hc24, h⟩ := ck_some h
  refine w_sw k204 6 (Z := (sI Y23 52 0 (ix ((nI 68) + v6)) ((gI Y23.1 52 0 (ix ((nI 68) + v6))) + (nI 1)))) (pc' := 150) (ls' := [(0, aR 48 0), (1, aI a1), (2, aI v3), (3, aI v6), (4, aI v9), (5, aI v13)]) (st' := []) (cs' := [vp_in ((nI 68) + v6) 718, vp_in ((nI 68) + v6) 718, allw 52 0]) (fun _ => rfl) rfl (al2 (vin hc24) (al2 (vin hc24) (al1 rfl))) ?_
  replace h := wr_some h
  generalize (sI Y23 52 0 (ix ((nI 68) + v6)) ((gI Y23.1 52 0 (ix ((nI 68) + v6))) + (nI 1))) = Y25 at h ⊢
  refine w_sg k204 8 (pc' := 164) (ls' := [(0, aR 48 0), (1, aI a1), (2, aI v3), (3, aI v6), (4, aI v9), (5, aI v13)]) (st' := [aI (nI 73), aR 52 0, aI ((nI 73) + v6), aR 52 0]) (cs' := []) (fun _ => rfl) al0 ?_
  obtain ⟨hc26, h⟩ := ck_some h
  refine w_sg k204 8 (pc' := 174) (ls' := [(0, aR 48 0), (1, aI a1), (2, aI v3), (3, aI v6), (4, aI v9), (5, aI v13)]) (st' := [aI ((gI Y25.1 52 0 (ix ((nI 73) + v6))) + (gI Y25.1 52 0 0)), aI ((nI 73) + v6), aR 52 0]) (cs' := [vp_in ((nI 73) + v6) 718, vp_in (nI 0) 718]) (fun _ => rfl) (al2 (vin hc26) (al1 (vin rfl))) ?_
  refine w_sg k204 3 (pc' := 177) (ls' := [(0, aR 48 0), (1, aI a1), (2, aI v3), (3, aI v6), (4, aI v9), (5, aI v13)]) (st' := [aI (nI 5), aI a1, aR 48 0, aI ((gI Y25.1 52 0 (ix ((nI 73) + v6))) + (gI Y25.1 52 0 0)), aI ((nI 73) + v6), aR 52 0]) (cs' := []) (fun _ => rfl) al0 ?_
  obtain ⟨v29, Y27, hv28, h⟩ := bd_some h
  refine w_cV1 k204 (sn_178 _ _ _ _ hv28) rfl (st := [aI ((gI Y25.1 52 0 (ix ((nI 73) + v6))) + (gI Y25.1 52 0 0)), aI ((nI 73) + v6), aR 52 0]) rfl ?_ (fun _ _ q => q.elim)
  refine w_sw k204 2 (Z := (sI Y27 52 0 (ix ((nI 73) + v6)) (((gI Y25.1 52 0 (ix ((nI 73) + v6))) + (gI Y25.1 52 0 0)) - v29))) (pc' := 182) (ls' := [(0, aR 48 0), (1, aI a1), (2, aI v3), (3, aI v6), (4, aI v9), (5, aI v13)]) (st' := []) (cs' := [vp_in ((nI 73) + v6) 718, allw 52 0]) (fun _ => rfl) rfl (al2 (vin hc26) (al1 rfl)) ?_
  replace h := wr_some h
  generalize (sI Y27 52 0 (ix ((nI 73) + v6)) (((gI Y25.1 52 0 (ix ((nI 73) + v6))) + (gI Y25.1 52 0 0)) - v29)) = Y30 at h ⊢
  refine w_sg k204 8 (pc' := 197) (ls' := [(0, aR 48 0), (1, aI a1), (2, aI v3), (3, aI v6), (4, aI v9), (5, aI v13)]) (st' := [aI ((gI Y30.1 52 0 7) - (gI Y30.1 52 0 7) / (nI 60) * (nI 60)), aI (nI 6), aI (nI 358)]) (cs' := [vp_in (nI 7) 718, ¬ (nI 60) = 0]) (fun _ => rfl) (al2 (vin rfl) (al1 (by decide))) ?_
  refine w_sg k204 3 (pc' := 201) (ls' := [(0, aR 48 0), (1, aI a1), (2, aI v3), (3, aI v6), (4, aI v9), (5, aI v13), (6, aI ((nI 358) + ((nI 6) * ((gI Y30.1 52 0 7) - (gI Y30.1 52 0 7) / (nI 60) * (nI 60)))))]) (st' := []) (cs' := []) (fun _ => rfl) al0 ?_
  refine w_sg k204 6 (pc' := 210) (ls' := [(0, aR 48 0), (1, aI a1), (2, aI v3), (3, aI v6), (4, aI v9), (5, aI v13), (6, aI ((nI 358) + ((nI 6) * ((gI Y30.1 52 0 7) - (gI Y30.1 52 0 7) / (nI 60) * (nI 60)))))]) (st' := [aI (nI 0), aI a1, aR 48 0, aI ((nI 358) + ((nI 6) * ((gI Y30.1 52 0 7) - (gI Y30.1 52 0 7) / (nI 60) * (nI 60)))), aR 52 0]) (cs' := []) (fun _ => rfl) al0 ?_
  obtain ⟨v33, Y31, hv32, h⟩ := bd_some h
  refine w_cV1 k204 (sn_178 _ _ _ _ hv32) rfl (st := [aI ((nI 358) + ((nI 6) * ((gI Y30.1 52 0 7) - (gI Y30.1 52 0 7) / (nI 60) * (nI 60)))), aR 52 0]) rfl ?_ (fun _ _ q => q.elim)
  obtain ⟨hc34, h⟩ := ck_some h
  refine w_sw k204 1 (Z := (sI Y31 52 0 (ix ((nI 358) + ((nI 6) * ((gI Y30.1 52 0 7) - (gI Y30.1 52 0 7) / (nI 60) * (nI 60))))) v33)) (pc' := 214) (ls' := [(0, aR 48 0), (1, aI a1), (2, aI v3), (3, aI v6), (4, aI v9), (5, aI v13), (6, aI ((nI 358) + ((nI 6) * ((gI Y30.1 52 0 7) - (gI Y30.1 52 0 7) / (nI 60) * (nI 60)))))]) (st' := []) (cs' := [vp_in ((nI 358) + ((nI 6) * ((gI Y30.1 52 0 7) - (gI Y30.1 52 0 7) / (nI 60) * (nI 60)))) 718, allw 52 0]) (fun _ => rfl) rfl (al2 (vin hc34) (al1 rfl)) ?_
  replace h := wr_some h
  generalize (sI Y31 52 0 (ix ((nI 358) + ((nI 6) * ((gI Y30.1 52 0 7) - (gI Y30.1 52 0 7) / (nI 60) * (nI 60))))) v33) = Y35 at h ⊢
  obtain ⟨hc36, h⟩ := ck_some h
  refine w_sw k204 7 (Z := (sI Y35 52 0 (ix (((nI 358) + ((nI 6) * ((gI Y30.1 52 0 7) - (gI Y30.1 52 0 7) / (nI 60) * (nI 60)))) + (nI 1))) v3)) (pc' := 224) (ls' := [(0, aR 48 0), (1, aI a1), (2, aI v3), (3, aI v6), (4, aI v9), (5, aI v13), (6, aI ((nI 358) + ((nI 6) * ((gI Y30.1 52 0 7) - (gI Y30.1 52 0 7) / (nI 60) * (nI 60)))))]) (st' := []) (cs' := [vp_in (((nI 358) + ((nI 6) * ((gI Y30.1 52 0 7) - (gI Y30.1 52 0 7) / (nI 60) * (nI 60)))) + (nI 1)) 718, allw 52 0]) (fun _ => rfl) rfl (al2 (vin hc36) (al1 rfl)) ?_
  replace h := wr_some h
  generalize (sI Y35 52 0 (ix (((nI 358) + ((nI 6) * ((gI Y30.1 52 0 7) - (gI Y30.1 52 0 7) / (nI 60) * (nI 60)))) + (nI 1))) v3) = Y37 at h ⊢
  obtain ⟨hc38, h⟩ := ck_some h
  refine w_sw k204 7 (Z := (sI Y37 52 0 (ix (((nI 358) + ((nI 6) * ((gI Y30.1 52 0 7) - (gI Y30.1 52 0 7) / (nI 60) * (nI 60)))) + (nI 2))) v6)) (pc' := 234) (ls' := [(0, aR 48 0), (1, aI a1), (2, aI v3), (3, aI v6), (4, aI v9), (5, aI v13), (6, aI ((nI 358) + ((nI 6) * ((gI Y30.1 52 0 7) - (gI Y30.1 52 0 7) / (nI 60) * (nI 60)))))]) (st' := []) (cs' := [vp_in (((nI 358) + ((nI 6) * ((gI Y30.1 52 0 7) - (gI Y30.1 52 0 7) / (nI 60) * (nI 60)))) + (nI 2)) 718, allw 52 0]) (fun _ => rfl) rfl (al2 (vin hc38) (al1 rfl)) ?_
  replace h := wr_some h
  generalize (sI Y37 52 0 (ix (((nI 358) + ((nI 6) * ((gI Y30.1 52 0 7) - (gI Y30.1 52 0 7) / (nI 60) * (nI 60)))) + (nI 2))) v6) = Y39 at h ⊢
  refine w_sg k204 8 (pc' := 245) (ls' := [(0, aR 48 0), (1, aI a1), (2, aI v3), (3, aI v6), (4, aI v9), (5, aI v13), (6, aI ((nI 358) + ((nI 6) * ((gI Y30.1 52 0 7) - (gI Y30.1 52 0 7) / (nI 60) * (nI 60)))))]) (st' := [aI (nI 5), aI a1, aR 48 0, aI (((nI 358) + ((nI 6) * ((gI Y30.1 52 0 7) - (gI Y30.1 52 0 7) / (nI 60) * (nI 60)))) + (nI 3)), aR 52 0]) (cs' := []) (fun _ => rfl) al0 ?_
  obtain ⟨v42, Y40, hv41, h⟩ := bd_some h
  refine w_cV1 k204 (sn_178 _ _ _ _ hv41) rfl (st := [aI (((nI 358) + ((nI 6) * ((gI Y30.1 52 0 7) - (gI Y30.1 52 0 7) / (nI 60) * (nI 60)))) + (nI 3)), aR 52 0]) rfl ?_ (fun _ _ q => q.elim)
  obtain ⟨hc43, h⟩ := ck_some h
  refine w_sw k204 1 (Z := (sI Y40 52 0 (ix (((nI 358) + ((nI 6) * ((gI Y30.1 52 0 7) - (gI Y30.1 52 0 7) / (nI 60) * (nI 60)))) + (nI 3))) v42)) (pc' := 249) (ls' := [(0, aR 48 0), (1, aI a1), (2, aI v3), (3, aI v6), (4, aI v9), (5, aI v13), (6, aI ((nI 358) + ((nI 6) * ((gI Y30.1 52 0 7) - (gI Y30.1 52 0 7) / (nI 60) * (nI 60)))))]) (st' := []) (cs' := [vp_in (((nI 358) + ((nI 6) * ((gI Y30.1 52 0 7) - (gI Y30.1 52 0 7) / (nI 60) * (nI 60)))) + (nI 3)) 718, allw 52 0]) (fun _ => rfl) rfl (al2 (vin hc43) (al1 rfl)) ?_
  replace h := wr_some h
  generalize (sI Y40 52 0 (ix (((nI 358) + ((nI 6) * ((gI Y30.1 52 0 7) - (gI Y30.1 52 0 7) / (nI 60) * (nI 60)))) + (nI 3))) v42) = Y44 at h ⊢
  refine w_sg k204 8 (pc' := 262) (ls' := [(0, aR 48 0), (1, aI a1), (2, aI v3), (3, aI v6), (4, aI v9), (5, aI v13), (6, aI ((nI 358) + ((nI 6) * ((gI Y30.1 52 0 7) - (gI Y30.1 52 0 7) / (nI 60) * (nI 60)))))]) (st' := [aI (nI 0), aR 52 0, aI (((nI 358) + ((nI 6) * ((gI Y30.1 52 0 7) - (gI Y30.1 52 0 7) / (nI 60) * (nI 60)))) + (nI 4)), aR 52 0]) (cs' := []) (fun _ => rfl) al0 ?_
  obtain ⟨hc45, h⟩ := ck_some h
  refine w_sw k204 2 (Z := (sI Y44 52 0 (ix (((nI 358) + ((nI 6) * ((gI Y30.1 52 0 7) - (gI Y30.1 52 0 7) / (nI 60) * (nI 60)))) + (nI 4))) (gI Y44.1 52 0 0))) (pc' := 264) (ls' := [(0, aR 48 0), (1, aI a1), (2, aI v3), (3, aI v6), (4, aI v9), (5, aI v13), (6, aI ((nI 358) + ((nI 6) * ((gI Y30.1 52 0 7) - (gI Y30.1 52 0 7) / (nI 60) * (nI 60)))))]) (st' := []) (cs' := [vp_in (nI 0) 718, vp_in (((nI 358) + ((nI 6) * ((gI Y30.1 52 0 7) - (gI Y30.1 52 0 7) / (nI 60) * (nI 60)))) + (nI 4)) 718, allw 52 0]) (fun _ => rfl) rfl (al2 (vin rfl) (al2 (vin hc45) (al1 rfl))) ?_
  replace h := wr_some h
  generalize (sI Y44 52 0 (ix (((nI 358) + ((nI 6) * ((gI Y30.1 52 0 7) - (gI Y30.1 52 0 7) / (nI 60) * (nI 60)))) + (nI 4))) (gI Y44.1 52 0 0)) = Y46 at h ⊢
  obtain ⟨hc47, h⟩ := ck_some h
  refine w_sw k204 7 (Z := (sI Y46 52 0 (ix (((nI 358) + ((nI 6) * ((gI Y30.1 52 0 7) - (gI Y30.1 52 0 7) / (nI 60) * (nI 60)))) + (nI 5))) v13)) (pc' := 275) (ls' := [(0, aR 48 0), (1, aI a1), (2, aI v3), (3, aI v6), (4, aI v9), (5, aI v13), (6, aI ((nI 358) + ((nI 6) * ((gI Y30.1 52 0 7) - (gI Y30.1 52 0 7) / (nI 60) * (nI 60)))))]) (st' := []) (cs' := [vp_in (((nI 358) + ((nI 6) * ((gI Y30.1 52 0 7) - (gI Y30.1 52 0 7) / (nI 60) * (nI 60)))) + (nI 5)) 718, allw 52 0]) (fun _ => rfl) rfl (al2 (vin hc47) (al1 rfl)) ?_
  replace h := wr_some h
  generalize (sI Y46 52 0 (ix (((nI 358) + ((nI 6) * ((gI Y30.1 52 0 7) - (gI Y30.1 52 0 7) / (nI 60) * (nI 60)))) + (nI 5))) v13) = Y48 at h ⊢
  refine w_sg k204 8 (pc' := 289) (ls' := [(0, aR 48 0), (1, aI a1), (2, aI v3), (3, aI v6), (4, aI v9), (5, aI v13), (6, aI ((nI 358) + ((nI 6) * ((gI Y30.1 52 0 7) - (gI Y30.1 52 0 7) / (nI 60) * (nI 60)))))]) (st' := [aI (nI 1), aI (gI Y48.1 52 0 7), aI (nI 7), aR 52 0]) (cs' := [vp_in (nI 7) 718]) (fun _ => rfl) (al1 (vin rfl)) ?_
  refine w_sw k204 2 (Z := (sI Y48 52 0 7 ((gI Y48.1 52 0 7) + (nI 1)))) (pc' := 291) (ls' := [(0, aR 48 0), (1, aI a1), (2, aI v3), (3, aI v6), (4, aI v9), (5, aI v13), (6, aI ((nI 358) + ((nI 6) * ((gI Y30.1 52 0 7) - (gI Y30.1 52 0 7) / (nI 60) * (nI 60)))))]) (st' := []) (cs' := [vp_in (nI 7) 718, allw 52 0]) (fun _ => rfl) rfl (al2 (vin rfl) (al1 rfl)) ?_
  replace h := wr_some h
  generalize (sI Y48 52 0 7 ((gI Y48.1 52 0 7) + (nI 1))) = Y49 at h ⊢
  refine w_sw k204 5 (Z := (sI Y49 52 0 8 (-1 : Int32))) (pc' := 299) (ls' := [(0, aR 48 0), (1, aI a1), (2, aI v3), (3, aI v6), (4, aI v9), (5, aI v13), (6, aI ((nI 358) + ((nI 6) * ((gI Y30.1 52 0 7) - (gI Y30.1 52 0 7) / (nI 60) * (nI 60)))))]) (st' := []) (cs' := [vp_in (nI 8) 718, allw 52 0]) (fun _ => rfl) rfl (al2 (vin rfl) (al1 rfl)) ?_
  replace h := wr_some h
  generalize (sI Y49 52 0 8 (-1 : Int32)) = Y50 at h ⊢
  refine w_sg k204 2 (pc' := 301) (ls' := [(0, aR 48 0), (1, aI a1), (2, aI v3), (3, aI v6), (4, aI v9), (5, aI v13), (6, aI ((nI 358) + ((nI 6) * ((gI Y30.1 52 0 7) - (gI Y30.1 52 0 7) / (nI 60) * (nI 60)))))]) (st' := [aI a1, aR 48 0]) (cs' := []) (fun _ => rfl) al0 ?_
  obtain ⟨_, Y51, hv52, h⟩ := bd_some h
  refine w_cV0 k204 (sn_182 _ _ _ hv52) rfl (st := []) rfl ?_ (fun _ _ q => q.elim)
  obtain rfl := Option.some.inj h
  exact w_return k204 ⟨rfl, rfl⟩
set_option maxRecDepth 20000 in
set_option maxHeartbeats 4000000 in
/-- BallotBusModel.worksOn -/
theorem sn_203 {Y : Sm} (v : Unit) (Z : Sm) (h : fn_203 Y = some (v, Z)) : Mt 6 0 203 [aR 48 0] Y (Rt none Z) nX := by
  refine Mt_of [(0, aR 48 0)] ?_
  generalize ho : (v, Z) = o at h
  have hv9 : v = o.1 := congrArg Prod.fst ho
  have hZ9 : Z = o.2 := congrArg Prod.snd ho
  clear ho
  subst hv9 hZ9
  unfold fn_203 at h
  refine w_sg k203 5 (pc' := 8) (ls' := [(0, aR 48 0)]) (st' := [aI (gI Y.1 52 0 8), aR 48 0]) (cs' := [vp_in (nI 8) 718]) (fun _ => rfl) (al1 (vin rfl)) ?_
  obtain ⟨v3, Y1, hv2, h⟩ := bd_some h
  refine w_cV1 k203 (sn_179 _ _ _ hv2) rfl (st := []) rfl ?_ (fun _ _ q => q.elim)
  refine w_sg k203 1 (pc' := 12) (ls' := [(0, aR 48 0), (1, aI v3)]) (st' := []) (cs' := []) (fun _ => rfl) al0 ?_
  refine w_sg k203 8 (pc' := 24) (ls' := [(0, aR 48 0), (1, aI v3)]) (st' := [aI (nI 4), aI ((nI 118) + ((nI 6) * v3)), aR 52 0]) (cs' := []) (fun _ => rfl) al0 ?_
  refine w_sg k203 4 (pc' := 28) (ls' := [(0, aR 48 0), (1, aI v3)]) (st' := [aI (nI 4), aI v3, aR 48 0, aI (((nI 118) + ((nI 6) * v3)) + (nI 4)), aR 52 0]) (cs' := []) (fun _ => rfl) al0 ?_
  obtain ⟨v6, Y4, hv5, h⟩ := bd_some h
  refine w_cV1 k203 (sn_178 _ _ _ _ hv5) rfl (st := [aI (((nI 118) + ((nI 6) * v3)) + (nI 4)), aR 52 0]) rfl ?_ (fun _ _ q => q.elim)
  obtain ⟨hc7, h⟩ := ck_some h
  refine w_sw k203 3 (Z := (sI Y4 52 0 (ix (((nI 118) + ((nI 6) * v3)) + (nI 4))) (v6 - (nI 1)))) (pc' := 34) (ls' := [(0, aR 48 0), (1, aI v3)]) (st' := []) (cs' := [vp_in (((nI 118) + ((nI 6) * v3)) + (nI 4)) 718, allw 52 0]) (fun _ => rfl) rfl (al2 (vin hc7) (al1 rfl)) ?_
  replace h := wr_some h
  generalize (sI Y4 52 0 (ix (((nI 118) + ((nI 6) * v3)) + (nI 4))) (v6 - (nI 1))) = Y8 at h ⊢
  refine w_sg k203 3 (pc' := 37) (ls' := [(0, aR 48 0), (1, aI v3)]) (st' := [aI (nI 4), aI v3, aR 48 0]) (cs' := []) (fun _ => rfl) al0 ?_
  obtain ⟨v11, Y9, hv10, h⟩ := bd_some h
  refine w_cV1 k203 (sn_178 _ _ _ _ hv10) rfl (st := []) rfl ?_ (fun _ _ q => q.elim)
  refine w_if_ne k203 rfl (fun c => ?_) (fun c => ?_)
  · replace h := if_f c h
    obtain rfl := Option.some.inj h
    exact w_return k203 ⟨rfl, rfl⟩
  · replace h := if_t c h
    refine w_sg k203 2 (pc' := 45) (ls' := [(0, aR 48 0), (1, aI v3)]) (st' := [aI v3, aR 48 0]) (cs' := []) (fun _ => rfl) al0 ?_
    obtain ⟨_, Y12, hv13, h⟩ := bd_some h
    refine w_cV0 k203 (sn_204 _ _ _ hv13) rfl (st := []) rfl ?_ (fun _ _ q => q.elim)
    obtain rfl := Option.some.inj h
    exact w_return k203 ⟨rfl, rfl⟩
set_option maxRecDepth 20000 in
set_option maxHeartbeats 4000000 in
/-- BallotBusModel.has -/
theorem sn_167 (a0 : Int32) (a1 : Int32) {Y : Sm} (v : Int32) (Z : Sm) (h : fn_167 a0 a1 Y = some (v, Z)) : Mt 4 0 167 [aI a0, aI a1] Y (Rt (some (aI v)) Z) nX := by
  refine Mt_of [(0, aI a0), (1, aI a1)] ?_
  generalize ho : (v, Z) = o at h
  have hv9 : v = o.1 := congrArg Prod.fst ho
  have hZ9 : Z = o.2 := congrArg Prod.snd ho
  clear ho
  subst hv9 hZ9
  unfold fn_167 at h
  refine w_sg k167 6 (pc' := 6) (ls' := [(0, aI a0), (1, aI a1)]) (st' := [aI (nI 1), aI ((a0 >>> (a1 &&& 31)) &&& (nI 1))]) (cs' := []) (fun _ => rfl) al0 ?_
  refine w_icmp_ne k167 rfl (fun c => ?_) (fun c => ?_)
  · replace h := if_f c h
    refine w_sg k167 1 (pc' := 14) (ls' := [(0, aI a0), (1, aI a1)]) (st' := [aI (nI 0)]) (cs' := []) (fun _ => rfl) al0 ?_
    obtain rfl := Option.some.inj h
    exact w_zreturn k167 (Or.inl rfl) ⟨rfl, rfl⟩
  · replace h := if_t c h
    refine w_sg k167 2 (pc' := 14) (ls' := [(0, aI a0), (1, aI a1)]) (st' := [aI (nI 1)]) (cs' := []) (fun _ => rfl) al0 ?_
    obtain rfl := Option.some.inj h
    exact w_zreturn k167 (Or.inr rfl) ⟨rfl, rfl⟩
set_option maxRecDepth 20000 in
set_option maxHeartbeats 4000000 in
/-- BallotBusModel.doesWait -/
theorem sn_180 (a1 : Int32) {Y : Sm} (v : Int32) (Z : Sm) (h : fn_180 a1 Y = some (v, Z)) : Mt 5 0 180 [aR 48 0, aI a1] Y (Rt (some (aI v)) Z) nX := by
  refine Mt_of [(0, aR 48 0), (1, aI a1)] ?_
  generalize ho : (v, Z) = o at h
  have hv9 : v = o.1 := congrArg Prod.fst ho
  have hZ9 : Z = o.2 := congrArg Prod.snd ho
  clear ho
  subst hv9 hZ9
  unfold fn_180 at h
  refine w_sg k180 3 (pc' := 3) (ls' := [(0, aR 48 0), (1, aI a1)]) (st' := [aI (nI 0), aI a1, aR 48 0]) (cs' := []) (fun _ => rfl) al0 ?_
  obtain ⟨v3, Y1, hv2, h⟩ := bd_some h
  refine w_cV1 k180 (sn_178 _ _ _ _ hv2) rfl (st := []) rfl ?_ (fun _ _ q => q.elim)
  refine w_sg k180 4 (pc' := 13) (ls' := [(0, aR 48 0), (1, aI a1)]) (st' := [aI (gI Y1.1 52 0 8), aI v3]) (cs' := [vp_in (nI 8) 718]) (fun _ => rfl) (al1 (vin rfl)) ?_
  refine w_icmp_eq k180 rfl (fun c => ?_) (fun c => ?_)
  · replace h := if_t c h
    refine w_sg k180 1 (pc' := 21) (ls' := [(0, aR 48 0), (1, aI a1)]) (st' := [aI (nI 0)]) (cs' := []) (fun _ => rfl) al0 ?_
    obtain rfl := Option.some.inj h
    exact w_zreturn k180 (Or.inl rfl) ⟨rfl, rfl⟩
  · replace h := if_f c h
    refine w_sg k180 2 (pc' := 21) (ls' := [(0, aR 48 0), (1, aI a1)]) (st' := [aI (nI 1)]) (cs' := []) (fun _ => rfl) al0 ?_
    obtain rfl := Option.some.inj h
    exact w_zreturn k180 (Or.inr rfl) ⟨rfl, rfl⟩
set_option maxRecDepth 20000 in
set_option maxHeartbeats 4000000 in
/-- BallotBusModel.isInLine -/
theorem sn_186 (a1 : Int32) (a2 : Int32) {Y : Sm} (v : Int32) (Z : Sm) (h : fn_186 a1 a2 Y = some (v, Z)) : Mt 6 0 186 [aR 48 0, aI a1, aI a2] Y (Rt (some (aI v)) Z) nX := by
  refine Mt_of [(0, aR 48 0), (1, aI a1), (2, aI a2)] ?_
  generalize ho : (v, Z) = o at h
  have hv9 : v = o.1 := congrArg Prod.fst ho
  have hZ9 : Z = o.2 := congrArg Prod.snd ho
  clear ho
  subst hv9 hZ9
  unfold fn_186 at h
  refine w_sg k186 3 (pc' := 3) (ls' := [(0, aR 48 0), (1, aI a1), (2, aI a2)]) (st' := [aI (nI 2), aI a1, aR 48 0]) (cs' := []) (fun _ => rfl) al0 ?_
  obtain ⟨v3, Y1, hv2, h⟩ := bd_some h
  refine w_cV1 k186 (sn_178 _ _ _ _ hv2) rfl (st := []) rfl ?_ (fun _ _ q => q.elim)
  refine w_sg k186 1 (pc' := 7) (ls' := [(0, aR 48 0), (1, aI a1), (2, aI a2)]) (st' := [aI a2, aI v3]) (cs' := []) (fun _ => rfl) al0 ?_
  refine w_icmp_ne k186 rfl (fun c => ?_) (fun c => ?_)
  · replace h := if_f c h
    refine w_sg k186 1 (pc' := 23) (ls' := [(0, aR 48 0), (1, aI a1), (2, aI a2)]) (st' := [aI (nI 0)]) (cs' := []) (fun _ => rfl) al0 ?_
    obtain rfl := Option.some.inj h
    exact w_zreturn k186 (Or.inl rfl) ⟨rfl, rfl⟩
  · replace h := if_t c h
    refine w_sg k186 2 (pc' := 12) (ls' := [(0, aR 48 0), (1, aI a1), (2, aI a2)]) (st' := [aI a1, aR 48 0]) (cs' := []) (fun _ => rfl) al0 ?_
    obtain ⟨v6, Y4, hv5, h⟩ := bd_some h
    refine w_cV1 k186 (sn_180 _ _ _ hv5) rfl (st := []) rfl ?_ (fun _ _ q => q.elim)
    refine w_if_eq k186 rfl (fun c => ?_) (fun c => ?_)
    · replace h := if_t c h
      refine w_sg k186 1 (pc' := 23) (ls' := [(0, aR 48 0), (1, aI a1), (2, aI a2)]) (st' := [aI (nI 0)]) (cs' := []) (fun _ => rfl) al0 ?_
      obtain rfl := Option.some.inj h
      exact w_zreturn k186 (Or.inl rfl) ⟨rfl, rfl⟩
    · replace h := if_f c h
      refine w_sg k186 2 (pc' := 23) (ls' := [(0, aR 48 0), (1, aI a1), (2, aI a2)]) (st' := [aI (nI 1)]) (cs' := []) (fun _ => rfl) al0 ?_
      obtain rfl := Option.some.inj h
      exact w_zreturn k186 (Or.inr rfl) ⟨rfl, rfl⟩
set_option maxRecDepth 20000 in
set_option maxHeartbeats 4000000 in
/-- BallotBusModel.claimOf -/
theorem sn_184 (a1 : Int32) {Y : Sm} (v : Int32) (Z : Sm) (h : fn_184 a1 Y = some (v, Z)) : Mt 5 0 184 [aR 48 0, aI a1] Y (Rt (some (aI v)) Z) nX := by
  refine Mt_of [(0, aR 48 0), (1, aI a1)] ?_
  generalize ho : (v, Z) = o at h
  have hv9 : v = o.1 := congrArg Prod.fst ho
  have hZ9 : Z = o.2 := congrArg Prod.snd ho
  clear ho
  subst hv9 hZ9
  unfold fn_184 at h
  refine w_sg k184 6 (pc' := 9) (ls' := [(0, aR 48 0), (1, aI a1)]) (st' := [aI (nI 2), aI a1, aR 48 0, aI (nI 15), aR 52 0]) (cs' := []) (fun _ => rfl) al0 ?_
  obtain ⟨v3, Y1, hv2, h⟩ := bd_some h
  refine w_cV1 k184 (sn_178 _ _ _ _ hv2) rfl (st := [aI (nI 15), aR 52 0]) rfl ?_ (fun _ _ q => q.elim)
  obtain ⟨hc4, h⟩ := ck_some h
  refine w_sg k184 2 (pc' := 14) (ls' := [(0, aR 48 0), (1, aI a1)]) (st' := [aI (gI Y1.1 52 0 (ix ((nI 15) + v3)))]) (cs' := [vp_in ((nI 15) + v3) 718]) (fun _ => rfl) (al1 (vin hc4)) ?_
  by_cases c5 : (gI Y1.1 52 0 (ix ((nI 15) + v3))) = (nI 1)
  · replace h := if_t c5 h
    refine w_swAt k184 0 rfl rfl rfl rfl c5 ?_
    refine w_sg k184 3 (pc' := 43) (ls' := [(0, aR 48 0), (1, aI a1)]) (st' := [aI (nI 3), aI a1, aR 48 0]) (cs' := []) (fun _ => rfl) al0 ?_
    obtain ⟨v10, Y8, hv9, h⟩ := bd_some h
    refine w_cV1 k184 (sn_178 _ _ _ _ hv9) rfl (st := []) rfl ?_ (fun _ _ q => q.elim)
    refine w_sg k184 1 (pc' := 47) (ls' := [(0, aR 48 0), (1, aI a1)]) (st' := [aI (-v10)]) (cs' := []) (fun _ => rfl) al0 ?_
    obtain rfl := Option.some.inj h
    exact w_ireturn k184 ⟨rfl, rfl⟩
  replace h := if_f c5 h
  by_cases c6 : (gI Y1.1 52 0 (ix ((nI 15) + v3))) = (nI 2)
  · replace h := if_t c6 h
    refine w_swAt k184 1 rfl rfl rfl rfl c6 ?_
    refine w_sg k184 6 (pc' := 57) (ls' := [(0, aR 48 0), (1, aI a1)]) (st' := [aI (nI 1), aI a1, aR 48 0, aI (nI 20), aR 52 0]) (cs' := []) (fun _ => rfl) al0 ?_
    obtain ⟨v13, Y11, hv12, h⟩ := bd_some h
    refine w_cV1 k184 (sn_178 _ _ _ _ hv12) rfl (st := [aI (nI 20), aR 52 0]) rfl ?_ (fun _ _ q => q.elim)
    obtain ⟨hc14, h⟩ := ck_some h
    refine w_sg k184 2 (pc' := 62) (ls' := [(0, aR 48 0), (1, aI a1)]) (st' := [aI (gI Y11.1 52 0 (ix ((nI 20) + v13)))]) (cs' := [vp_in ((nI 20) + v13) 718]) (fun _ => rfl) (al1 (vin hc14)) ?_
    obtain rfl := Option.some.inj h
    exact w_ireturn k184 ⟨rfl, rfl⟩
  replace h := if_f c6 h
  by_cases c7 : (gI Y1.1 52 0 (ix ((nI 15) + v3))) = (nI 3)
  · replace h := if_t c7 h
    refine w_swAt k184 2 rfl rfl rfl rfl c7 ?_
    refine w_sg k184 6 (pc' := 72) (ls' := [(0, aR 48 0), (1, aI a1)]) (st' := [aI (nI 1), aI a1, aR 48 0, aI (nI 28), aR 52 0]) (cs' := []) (fun _ => rfl) al0 ?_
    obtain ⟨v17, Y15, hv16, h⟩ := bd_some h
    refine w_cV1 k184 (sn_178 _ _ _ _ hv16) rfl (st := [aI (nI 28), aR 52 0]) rfl ?_ (fun _ _ q => q.elim)
    obtain ⟨hc18, h⟩ := ck_some h
    refine w_sg k184 2 (pc' := 77) (ls' := [(0, aR 48 0), (1, aI a1)]) (st' := [aI (gI Y15.1 52 0 (ix ((nI 28) + v17)))]) (cs' := [vp_in ((nI 28) + v17) 718]) (fun _ => rfl) (al1 (vin hc18)) ?_
    obtain rfl := Option.some.inj h
    exact w_ireturn k184 ⟨rfl, rfl⟩
  replace h := if_f c7 h
  refine w_swOut k184 rfl rfl rfl (nsw_s (nsw_s (nsw_s nsw_0 c5) c6) c7) ?_
  refine w_sg k184 1 (pc' := 79) (ls' := [(0, aR 48 0), (1, aI a1)]) (st' := [aI (nI 0)]) (cs' := []) (fun _ => rfl) al0 ?_
  obtain rfl := Option.some.inj h
  exact w_ireturn k184 ⟨rfl, rfl⟩
set_option maxRecDepth 20000 in
set_option maxHeartbeats 4000000 in
/-- BallotBusModel.isAhead -/
theorem sn_185 (a1 : Int32) (a2 : Int32) {Y : Sm} (v : Int32) (Z : Sm) (h : fn_185 a1 a2 Y = some (v, Z)) : Mt 6 0 185 [aR 48 0, aI a1, aI a2] Y (Rt (some (aI v)) Z) nX := by
  refine Mt_of [(0, aR 48 0), (1, aI a1), (2, aI a2)] ?_
  generalize ho : (v, Z) = o at h
  have hv9 : v = o.1 := congrArg Prod.fst ho
  have hZ9 : Z = o.2 := congrArg Prod.snd ho
  clear ho
  subst hv9 hZ9
  unfold fn_185 at h
  refine w_sg k185 2 (pc' := 2) (ls' := [(0, aR 48 0), (1, aI a1), (2, aI a2)]) (st' := [aI a1, aR 48 0]) (cs' := []) (fun _ => rfl) al0 ?_
  obtain ⟨v3, Y1, hv2, h⟩ := bd_some h
  refine w_cV1 k185 (sn_184 _ _ _ hv2) rfl (st := []) rfl ?_ (fun _ _ q => q.elim)
  refine w_sg k185 2 (pc' := 7) (ls' := [(0, aR 48 0), (1, aI a1), (2, aI a2)]) (st' := [aI a2, aR 48 0, aI v3]) (cs' := []) (fun _ => rfl) al0 ?_
  obtain ⟨v6, Y4, hv5, h⟩ := bd_some h
  refine w_cV1 k185 (sn_184 _ _ _ hv5) rfl (st := [aI v3]) rfl ?_ (fun _ _ q => q.elim)
  refine w_icmp_eq k185 rfl (fun c => ?_) (fun c => ?_)
  · replace h := if_t c h
    refine w_sg k185 3 (pc' := 35) (ls' := [(0, aR 48 0), (1, aI a1), (2, aI a2)]) (st' := [aI (nI 0), aI a1, aR 48 0]) (cs' := []) (fun _ => rfl) al0 ?_
    obtain ⟨v9, Y7, hv8, h⟩ := bd_some h
    refine w_cV1 k185 (sn_178 _ _ _ _ hv8) rfl (st := []) rfl ?_ (fun _ _ q => q.elim)
    refine w_sg k185 3 (pc' := 41) (ls' := [(0, aR 48 0), (1, aI a1), (2, aI a2)]) (st' := [aI (nI 0), aI a2, aR 48 0, aI v9]) (cs' := []) (fun _ => rfl) al0 ?_
    obtain ⟨v12, Y10, hv11, h⟩ := bd_some h
    refine w_cV1 k185 (sn_178 _ _ _ _ hv11) rfl (st := [aI v9]) rfl ?_ (fun _ _ q => q.elim)
    refine w_icmp_ge k185 rfl (fun c => ?_) (fun c => ?_)
    · replace h := if_t c h
      refine w_sg k185 1 (pc' := 52) (ls' := [(0, aR 48 0), (1, aI a1), (2, aI a2)]) (st' := [aI (nI 0)]) (cs' := []) (fun _ => rfl) al0 ?_
      obtain rfl := Option.some.inj h
      exact w_zreturn k185 (Or.inl rfl) ⟨rfl, rfl⟩
    · replace h := if_f c h
      refine w_sg k185 2 (pc' := 52) (ls' := [(0, aR 48 0), (1, aI a1), (2, aI a2)]) (st' := [aI (nI 1)]) (cs' := []) (fun _ => rfl) al0 ?_
      obtain rfl := Option.some.inj h
      exact w_zreturn k185 (Or.inr rfl) ⟨rfl, rfl⟩
  · replace h := if_f c h
    refine w_sg k185 2 (pc' := 15) (ls' := [(0, aR 48 0), (1, aI a1), (2, aI a2)]) (st' := [aI a1, aR 48 0]) (cs' := []) (fun _ => rfl) al0 ?_
    obtain ⟨v15, Y13, hv14, h⟩ := bd_some h
    refine w_cV1 k185 (sn_184 _ _ _ hv14) rfl (st := []) rfl ?_ (fun _ _ q => q.elim)
    refine w_sg k185 2 (pc' := 20) (ls' := [(0, aR 48 0), (1, aI a1), (2, aI a2)]) (st' := [aI a2, aR 48 0, aI v15]) (cs' := []) (fun _ => rfl) al0 ?_
    obtain ⟨v18, Y16, hv17, h⟩ := bd_some h
    refine w_cV1 k185 (sn_184 _ _ _ hv17) rfl (st := [aI v15]) rfl ?_ (fun _ _ q => q.elim)
    refine w_icmp_le k185 rfl (fun c => ?_) (fun c => ?_)
    · replace h := if_t c h
      refine w_sg k185 1 (pc' := 31) (ls' := [(0, aR 48 0), (1, aI a1), (2, aI a2)]) (st' := [aI (nI 0)]) (cs' := []) (fun _ => rfl) al0 ?_
      obtain rfl := Option.some.inj h
      exact w_zreturn k185 (Or.inl rfl) ⟨rfl, rfl⟩
    · replace h := if_f c h
      refine w_sg k185 2 (pc' := 31) (ls' := [(0, aR 48 0), (1, aI a1), (2, aI a2)]) (st' := [aI (nI 1)]) (cs' := []) (fun _ => rfl) al0 ?_
      obtain rfl := Option.some.inj h
      exact w_zreturn k185 (Or.inr rfl) ⟨rfl, rfl⟩
set_option maxRecDepth 20000 in
set_option maxHeartbeats 4000000 in
/-- BallotBusModel.aheadOf -/
theorem sn_187 (a1 : Int32) {Y : Sm} (v : Int32) (Z : Sm) (h : fn_187 a1 Y = some (v, Z)) : Mt 7 0 187 [aR 48 0, aI a1] Y (Rt (some (aI v)) Z) nX := by
  refine Mt_of [(0, aR 48 0), (1, aI a1)] ?_
  generalize ho : (v, Z) = o at h
  have hv9 : v = o.1 := congrArg Prod.fst ho
  have hZ9 : Z = o.2 := congrArg Prod.snd ho
  clear ho
  subst hv9 hZ9
  unfold fn_187 at h
  have L4_0 : ∀ (l1 : Int32) (n : Nat) (l2 : Int32) (l3 : Int32) (Y : Sm), lp (fun s => fn_187_L4 l1 s.1 s.2.1 s.2.2) n (l2, l3, Y) = some o → Wm 7 0 187 0 4 [(0, aR 48 0), (1, aI l1), (2, aI l2), (3, aI l3)] [] Y (Rt (some (aI o.1)) o.2) nX := by
    intro l1 n
    induction n with
    | zero => intro l2 l3 Y h; cases h
    | succ n ih3 =>
      intro l2 l3 Y h
      obtain ⟨q1, h, hn2⟩ := lp_succ h
      replace h : fn_187_L4 l1 l2 l3 Y = some q1 := h
      unfold fn_187_L4 at h
      refine w_sg k187 5 (pc' := 12) (ls' := [(0, aR 48 0), (1, aI l1), (2, aI l2), (3, aI l3)]) (st' := [aI (gI Y.1 52 0 9), aI l3]) (cs' := [vp_in (nI 9) 718]) (fun _ => rfl) (al1 (vin rfl)) ?_
      refine w_icmp_ge k187 rfl (fun c => ?_) (fun c => ?_)
      · replace h := if_t c h
        refine w_sg k187 1 (pc' := 49) (ls' := [(0, aR 48 0), (1, aI l1), (2, aI l2), (3, aI l3)]) (st' := [aI l2]) (cs' := []) (fun _ => rfl) al0 ?_
        obtain rfl := Option.some.inj h
        obtain rfl := lpn_r hn2
        exact w_ireturn k187 ⟨rfl, rfl⟩
      · replace h := if_f c h
        refine w_sg k187 5 (pc' := 20) (ls' := [(0, aR 48 0), (1, aI l1), (2, aI l2), (3, aI l3)]) (st' := [aI (nI 2), aI l1, aR 48 0, aI l3, aR 48 0]) (cs' := []) (fun _ => rfl) al0 ?_
        obtain ⟨v6, Y4, hv5, h⟩ := bd_some h
        refine w_cV1 k187 (sn_178 _ _ _ _ hv5) rfl (st := [aI l3, aR 48 0]) rfl ?_ (fun _ _ q => q.elim)
        obtain ⟨v9, Y7, hv8, h⟩ := bd_some h
        refine w_cV1 k187 (sn_186 _ _ _ _ hv8) rfl (st := []) rfl ?_ (fun _ _ q => q.elim)
        refine w_if_eq k187 rfl (fun c => ?_) (fun c => ?_)
        · replace h := if_t c h
          refine w_sg k187 1 (pc' := 45) (ls' := [(0, aR 48 0), (1, aI l1), (2, aI l2), (3, aI (l3 + (nI 1)))]) (st' := []) (cs' := []) (fun _ => rfl) al0 ?_
          refine w_sg k187 1 (pc' := 4) (ls' := [(0, aR 48 0), (1, aI l1), (2, aI l2), (3, aI (l3 + (nI 1)))]) (st' := []) (cs' := []) (fun _ => rfl) al0 ?_
          refine w_ls [(0, aR 48 0), (1, aI l1), (2, aI l2), (3, aI (l3 + (nI 1)))] (lq_c rfl (lq_c rfl (lq_c rfl (lq_c rfl lq_n)))) ?_
          obtain rfl := Option.some.inj h
          exact ih3 _ _ _ (lpn_l hn2)
        · replace h := if_f c h
          refine w_sg k187 3 (pc' := 32) (ls' := [(0, aR 48 0), (1, aI l1), (2, aI l2), (3, aI l3)]) (st' := [aI l1, aI l3, aR 48 0]) (cs' := []) (fun _ => rfl) al0 ?_
          obtain ⟨v12, Y10, hv11, h⟩ := bd_some h
          refine w_cV1 k187 (sn_185 _ _ _ _ hv11) rfl (st := []) rfl ?_ (fun _ _ q => q.elim)
          refine w_if_eq k187 rfl (fun c => ?_) (fun c => ?_)
          · replace h := if_t c h
            refine w_sg k187 1 (pc' := 45) (ls' := [(0, aR 48 0), (1, aI l1), (2, aI l2), (3, aI (l3 + (nI 1)))]) (st' := []) (cs' := []) (fun _ => rfl) al0 ?_
            refine w_sg k187 1 (pc' := 4) (ls' := [(0, aR 48 0), (1, aI l1), (2, aI l2), (3, aI (l3 + (nI 1)))]) (st' := []) (cs' := []) (fun _ => rfl) al0 ?_
            refine w_ls [(0, aR 48 0), (1, aI l1), (2, aI l2), (3, aI (l3 + (nI 1)))] (lq_c rfl (lq_c rfl (lq_c rfl (lq_c rfl lq_n)))) ?_
            obtain rfl := Option.some.inj h
            exact ih3 _ _ _ (lpn_l hn2)
          · replace h := if_f c h
            refine w_sg k187 4 (pc' := 42) (ls' := [(0, aR 48 0), (1, aI l1), (2, aI (l2 + (nI 1))), (3, aI l3)]) (st' := []) (cs' := []) (fun _ => rfl) al0 ?_
            refine w_sg k187 1 (pc' := 45) (ls' := [(0, aR 48 0), (1, aI l1), (2, aI (l2 + (nI 1))), (3, aI (l3 + (nI 1)))]) (st' := []) (cs' := []) (fun _ => rfl) al0 ?_
            refine w_sg k187 1 (pc' := 4) (ls' := [(0, aR 48 0), (1, aI l1), (2, aI (l2 + (nI 1))), (3, aI (l3 + (nI 1)))]) (st' := []) (cs' := []) (fun _ => rfl) al0 ?_
            refine w_ls [(0, aR 48 0), (1, aI l1), (2, aI (l2 + (nI 1))), (3, aI (l3 + (nI 1)))] (lq_c rfl (lq_c rfl (lq_c rfl (lq_c rfl lq_n)))) ?_
            obtain rfl := Option.some.inj h
            exact ih3 _ _ _ (lpn_l hn2)
  refine w_sg k187 2 (pc' := 2) (ls' := [(0, aR 48 0), (1, aI a1), (2, aI (nI 0))]) (st' := []) (cs' := []) (fun _ => rfl) al0 ?_
  refine w_sg k187 2 (pc' := 4) (ls' := [(0, aR 48 0), (1, aI a1), (2, aI (nI 0)), (3, aI (nI 0))]) (st' := []) (cs' := []) (fun _ => rfl) al0 ?_
  refine w_ls [(0, aR 48 0), (1, aI a1), (2, aI (nI 0)), (3, aI (nI 0))] (lq_c rfl (lq_c rfl (lq_c rfl (lq_c rfl lq_n)))) ?_
  exact L4_0 _ _ _ _ _ h
set_option maxRecDepth 20000 in
set_option maxHeartbeats 4000000 in
/-- BallotBusModel.inLine -/
theorem sn_188 (a1 : Int32) (a2 : Int32) {Y : Sm} (v : Int32) (Z : Sm) (h : fn_188 a1 a2 Y = some (v, Z)) : Mt 8 0 188 [aR 48 0, aI a1, aI a2] Y (Rt (some (aI v)) Z) nX := by
  refine Mt_of [(0, aR 48 0), (1, aI a1), (2, aI a2)] ?_
  generalize ho : (v, Z) = o at h
  have hv9 : v = o.1 := congrArg Prod.fst ho
  have hZ9 : Z = o.2 := congrArg Prod.snd ho
  clear ho
  subst hv9 hZ9
  unfold fn_188 at h
  have L2_0 : ∀ (l1 : Int32) (l2 : Int32) (n : Nat) (l3 : Int32) (Y : Sm), lp (fun s => fn_188_L2 l1 l2 s.1 s.2) n (l3, Y) = some o → Wm 8 0 188 0 2 [(0, aR 48 0), (1, aI l1), (2, aI l2), (3, aI l3)] [] Y (Rt (some (aI o.1)) o.2) nX := by
    intro l1 l2 n
    induction n with
    | zero => intro l3 Y h; cases h
    | succ n ih3 =>
      intro l3 Y h
      obtain ⟨q1, h, hn2⟩ := lp_succ h
      replace h : fn_188_L2 l1 l2 l3 Y = some q1 := h
      unfold fn_188_L2 at h
      refine w_sg k188 5 (pc' := 10) (ls' := [(0, aR 48 0), (1, aI l1), (2, aI l2), (3, aI l3)]) (st' := [aI (gI Y.1 52 0 9), aI l3]) (cs' := [vp_in (nI 9) 718]) (fun _ => rfl) (al1 (vin rfl)) ?_
      refine w_icmp_ge k188 rfl (fun c => ?_) (fun c => ?_)
      · replace h := if_t c h
        refine w_sg k188 1 (pc' := 40) (ls' := [(0, aR 48 0), (1, aI l1), (2, aI l2), (3, aI l3)]) (st' := [aI (-1 : Int32)]) (cs' := []) (fun _ => rfl) al0 ?_
        obtain rfl := Option.some.inj h
        obtain rfl := lpn_r hn2
        exact w_ireturn k188 ⟨rfl, rfl⟩
      · replace h := if_f c h
        refine w_sg k188 3 (pc' := 16) (ls' := [(0, aR 48 0), (1, aI l1), (2, aI l2), (3, aI l3)]) (st' := [aI l1, aI l3, aR 48 0]) (cs' := []) (fun _ => rfl) al0 ?_
        obtain ⟨v6, Y4, hv5, h⟩ := bd_some h
        refine w_cV1 k188 (sn_186 _ _ _ _ hv5) rfl (st := []) rfl ?_ (fun _ _ q => q.elim)
        refine w_if_eq k188 rfl (fun c => ?_) (fun c => ?_)
        · replace h := if_t c h
          refine w_sg k188 1 (pc' := 36) (ls' := [(0, aR 48 0), (1, aI l1), (2, aI l2), (3, aI (l3 + (nI 1)))]) (st' := []) (cs' := []) (fun _ => rfl) al0 ?_
          refine w_sg k188 1 (pc' := 2) (ls' := [(0, aR 48 0), (1, aI l1), (2, aI l2), (3, aI (l3 + (nI 1)))]) (st' := []) (cs' := []) (fun _ => rfl) al0 ?_
          refine w_ls [(0, aR 48 0), (1, aI l1), (2, aI l2), (3, aI (l3 + (nI 1)))] (lq_c rfl (lq_c rfl (lq_c rfl (lq_c rfl lq_n)))) ?_
          obtain rfl := Option.some.inj h
          exact ih3 _ _ (lpn_l hn2)
        · replace h := if_f c h
          refine w_sg k188 2 (pc' := 24) (ls' := [(0, aR 48 0), (1, aI l1), (2, aI l2), (3, aI l3)]) (st' := [aI l3, aR 48 0]) (cs' := []) (fun _ => rfl) al0 ?_
          obtain ⟨v9, Y7, hv8, h⟩ := bd_some h
          refine w_cV1 k188 (sn_187 _ _ _ hv8) rfl (st := []) rfl ?_ (fun _ _ q => q.elim)
          refine w_sg k188 1 (pc' := 28) (ls' := [(0, aR 48 0), (1, aI l1), (2, aI l2), (3, aI l3)]) (st' := [aI l2, aI v9]) (cs' := []) (fun _ => rfl) al0 ?_
          refine w_icmp_ne k188 rfl (fun c => ?_) (fun c => ?_)
          · replace h := if_f c h
            refine w_sg k188 1 (pc' := 36) (ls' := [(0, aR 48 0), (1, aI l1), (2, aI l2), (3, aI (l3 + (nI 1)))]) (st' := []) (cs' := []) (fun _ => rfl) al0 ?_
            refine w_sg k188 1 (pc' := 2) (ls' := [(0, aR 48 0), (1, aI l1), (2, aI l2), (3, aI (l3 + (nI 1)))]) (st' := []) (cs' := []) (fun _ => rfl) al0 ?_
            refine w_ls [(0, aR 48 0), (1, aI l1), (2, aI l2), (3, aI (l3 + (nI 1)))] (lq_c rfl (lq_c rfl (lq_c rfl (lq_c rfl lq_n)))) ?_
            obtain rfl := Option.some.inj h
            exact ih3 _ _ (lpn_l hn2)
          · replace h := if_t c h
            refine w_sg k188 1 (pc' := 32) (ls' := [(0, aR 48 0), (1, aI l1), (2, aI l2), (3, aI l3)]) (st' := [aI l3]) (cs' := []) (fun _ => rfl) al0 ?_
            obtain rfl := Option.some.inj h
            obtain rfl := lpn_r hn2
            exact w_ireturn k188 ⟨rfl, rfl⟩
  refine w_sg k188 2 (pc' := 2) (ls' := [(0, aR 48 0), (1, aI a1), (2, aI a2), (3, aI (nI 0))]) (st' := []) (cs' := []) (fun _ => rfl) al0 ?_
  refine w_ls [(0, aR 48 0), (1, aI a1), (2, aI a2), (3, aI (nI 0))] (lq_c rfl (lq_c rfl (lq_c rfl (lq_c rfl lq_n)))) ?_
  exact L2_0 _ _ _ _ _ h
set_option maxRecDepth 20000 in
set_option maxHeartbeats 4000000 in
/-- BallotBusModel.takesNext -/
theorem sn_202 {Y : Sm} (v : Unit) (Z : Sm) (h : fn_202 Y = some (v, Z)) : Mt 9 0 202 [aR 48 0] Y (Rt none Z) nX := by
  refine Mt_of [(0, aR 48 0)] ?_
  generalize ho : (v, Z) = o at h
  have hv9 : v = o.1 := congrArg Prod.fst ho
  have hZ9 : Z = o.2 := congrArg Prod.snd ho
  clear ho
  subst hv9 hZ9
  unfold fn_202 at h
  have L2_0 : ∀ (n : Nat) (l1 : Int32) (Y : Sm) (e4 : (Int32 × Sm) ⊕ (Unit × Sm)), lp (fun s => fn_202_L2 s.1 s.2) n (l1, Y) = some e4 → (∀ s9 : (Int32 × Sm), e4 = .inl s9 → Wm 9 0 202 0 52 [(0, aR 48 0), (3, aI s9.1)] [] s9.2 (Rt none o.2) nX) → (∀ r, e4 = .inr r → r = o) → Wm 9 0 202 0 2 [(0, aR 48 0), (1, aI l1)] [] Y (Rt none o.2) nX := by
    intro n
    induction n with
    | zero => intro l1 Y e4 h; cases h
    | succ n ih3 =>
      intro l1 Y e4 h kE5 kR6
      obtain ⟨q1, h, hn2⟩ := lp_succ h
      replace h : fn_202_L2 l1 Y = some q1 := h
      unfold fn_202_L2 at h
      have J43_0 : ∀ (l1 : Int32) (t0 : Int32) (Y : Sm), fn_202_J43_d1 l1 t0 Y = some q1 → Wm 9 0 202 0 43 [(0, aR 48 0), (1, aI l1)] [aI t0] Y (Rt none o.2) nX := by
        intro l1 t0 Y h
        unfold fn_202_J43_d1 at h
        refine w_sg k202 1 (pc' := 44) (ls' := [(0, aR 48 0), (1, aI l1), (3, aI t0)]) (st' := []) (cs' := []) (fun _ => rfl) al0 ?_
        refine w_sg k202 2 (pc' := 46) (ls' := [(0, aR 48 0), (1, aI l1), (3, aI t0)]) (st' := [aI (-1 : Int32), aI t0]) (cs' := []) (fun _ => rfl) al0 ?_
        refine w_icmp_ne k202 rfl (fun c => ?_) (fun c => ?_)
        · replace h := if_f c h
          refine w_ls [(0, aR 48 0), (3, aI t0)] (lq_c rfl (lq_c rfl lq_n)) ?_
          obtain rfl := Option.some.inj h
          obtain rfl := lpn_r hn2
          exact kE5 (t0, Y) rfl
        · replace h := if_t c h
          refine w_sg k202 2 (pc' := 69) (ls' := [(0, aR 48 0), (1, aI (l1 + (nI 1))), (3, aI t0)]) (st' := []) (cs' := []) (fun _ => rfl) al0 ?_
          refine w_sg k202 1 (pc' := 2) (ls' := [(0, aR 48 0), (1, aI (l1 + (nI 1))), (3, aI t0)]) (st' := []) (cs' := []) (fun _ => rfl) al0 ?_
          refine w_ls [(0, aR 48 0), (1, aI (l1 + (nI 1)))] (lq_c rfl (lq_c rfl lq_n)) ?_
          obtain rfl := Option.some.inj h
          exact ih3 _ _ _ (lpn_l hn2) kE5 kR6
      refine w_sg k202 3 (pc' := 7) (ls' := [(0, aR 48 0), (1, aI l1)]) (st' := [aI (gI Y.1 48 0 1), aI l1]) (cs' := []) (fun _ => rfl) al0 ?_
      refine w_icmp_ge k202 rfl (fun c => ?_) (fun c => ?_)
      · replace h := if_t c h
        obtain rfl := Option.some.inj h
        obtain rfl := lpn_r hn2
        obtain rfl := kR6 _ rfl
        exact w_return k202 ⟨rfl, rfl⟩
      · replace h := if_f c h
        obtain ⟨hc7, h⟩ := ck_some h
        refine w_sg k202 7 (pc' := 20) (ls' := [(0, aR 48 0), (1, aI l1), (2, aI (gI Y.1 52 0 (ix ((nI 10) + l1))))]) (st' := []) (cs' := [vp_in ((nI 10) + l1) 718]) (fun _ => rfl) (al1 (vin hc7)) ?_
        refine w_sg k202 5 (pc' := 27) (ls' := [(0, aR 48 0), (1, aI l1), (2, aI (gI Y.1 52 0 (ix ((nI 10) + l1))))]) (st' := [aI (gI Y.1 52 0 (ix ((nI 10) + l1))), aI (gI Y.1 52 0 4)]) (cs' := [vp_in (nI 4) 718]) (fun _ => rfl) (al1 (vin rfl)) ?_
        obtain ⟨v10, Y8, hv9, h⟩ := bd_some h
        refine w_cS1 k202 (sn_167 _ _ _ _ hv9) rfl (st := []) rfl ?_ (fun _ _ q => q.elim)
        refine w_if_eq k202 rfl (fun c => ?_) (fun c => ?_)
        · replace h := if_t c h
          refine w_sg k202 3 (pc' := 40) (ls' := [(0, aR 48 0), (1, aI l1), (2, aI (gI Y.1 52 0 (ix ((nI 10) + l1))))]) (st' := [aI (nI 0), aI (gI Y.1 52 0 (ix ((nI 10) + l1))), aR 48 0]) (cs' := []) (fun _ => rfl) al0 ?_
          obtain ⟨v13, Y11, hv12, h⟩ := bd_some h
          refine w_cV1 k202 (sn_188 _ _ _ _ hv12) rfl (st := []) rfl ?_ (fun _ _ q => q.elim)
          refine w_ls [(0, aR 48 0), (1, aI l1)] (lq_c rfl (lq_c rfl lq_n)) ?_
          exact J43_0 _ _ _ h
        · replace h := if_f c h
          refine w_sg k202 2 (pc' := 43) (ls' := [(0, aR 48 0), (1, aI l1), (2, aI (gI Y.1 52 0 (ix ((nI 10) + l1))))]) (st' := [aI (-1 : Int32)]) (cs' := []) (fun _ => rfl) al0 ?_
          refine w_ls [(0, aR 48 0), (1, aI l1)] (lq_c rfl (lq_c rfl lq_n)) ?_
          exact J43_0 _ _ _ h
  have J52_0 : ∀ (l3 : Int32) (Y : Sm), fn_202_J52 l3 Y = some o → Wm 9 0 202 0 52 [(0, aR 48 0), (3, aI l3)] [] Y (Rt none o.2) nX := by
    intro l3 Y h
    unfold fn_202_J52 at h
    refine w_sg k202 6 (pc' := 61) (ls' := [(0, aR 48 0), (3, aI l3)]) (st' := [aI (nI 0), aI l3, aR 48 0, aI (nI 8), aR 52 0]) (cs' := []) (fun _ => rfl) al0 ?_
    obtain ⟨v16, Y14, hv15, h⟩ := bd_some h
    refine w_cV1 k202 (sn_178 _ _ _ _ hv15) rfl (st := [aI (nI 8), aR 52 0]) rfl ?_ (fun _ _ q => q.elim)
    refine w_sw k202 1 (Z := (sI Y14 52 0 8 v16)) (pc' := 65) (ls' := [(0, aR 48 0), (3, aI l3)]) (st' := []) (cs' := [vp_in (nI 8) 718, allw 52 0]) (fun _ => rfl) rfl (al2 (vin rfl) (al1 rfl)) ?_
    replace h := wr_some h
    generalize (sI Y14 52 0 8 v16) = Y17 at h ⊢
    obtain rfl := Option.some.inj h
    exact w_return k202 ⟨rfl, rfl⟩
  refine w_sg k202 2 (pc' := 2) (ls' := [(0, aR 48 0), (1, aI (nI 0))]) (st' := []) (cs' := []) (fun _ => rfl) al0 ?_
  obtain ⟨e20, hl18, hx19⟩ := exd_some h
  refine w_ls [(0, aR 48 0), (1, aI (nI 0))] (lq_c rfl (lq_c rfl lq_n)) ?_
  refine L2_0 _ _ _ e20 hl18 (fun s9 hs9 => ?_) (fun r9 hr9 => ?_)
  · subst hs9
    replace h : fn_202_J52 s9.1 s9.2 = some o := hx19
    refine w_ls [(0, aR 48 0), (3, aI s9.1)] (lq_c rfl (lq_c rfl lq_n)) ?_
    exact J52_0 _ _ h
  · subst hr9
    exact hx19
set_option maxRecDepth 20000 in
set_option maxHeartbeats 4000000 in
/-- BallotBusModel.passesOn -/
theorem sn_201 {Y : Sm} (v : Unit) (Z : Sm) (h : fn_201 Y = some (v, Z)) : Mt 5 0 201 [aR 48 0] Y (Rt none Z) nX := by
  refine Mt_of [(0, aR 48 0)] ?_
  generalize ho : (v, Z) = o at h
  have hv9 : v = o.1 := congrArg Prod.fst ho
  have hZ9 : Z = o.2 := congrArg Prod.snd ho
  clear ho
  subst hv9 hZ9
  unfold fn_201 at h
  have J41_0 : ∀ (l1 : Int32) (Y : Sm), fn_201_J41 l1 Y = some o → Wm 5 0 201 0 41 [(0, aR 48 0), (1, aI l1)] [] Y (Rt none o.2) nX := by
    intro l1 Y h
    unfold fn_201_J41 at h
    refine w_sw k201 5 (Z := (sI Y 52 0 3 (nI 0))) (pc' := 48) (ls' := [(0, aR 48 0), (1, aI l1)]) (st' := []) (cs' := [vp_in (nI 3) 718, allw 52 0]) (fun _ => rfl) rfl (al2 (vin rfl) (al1 rfl)) ?_
    replace h := wr_some h
    generalize (sI Y 52 0 3 (nI 0)) = Y1 at h ⊢
    refine w_sg k201 8 (pc' := 60) (ls' := [(0, aR 48 0), (1, aI l1)]) (st' := [aI (gI Y1.1 48 0 2), aI (l1 + (nI 1)), aI (nI 2), aR 52 0]) (cs' := []) (fun _ => rfl) al0 ?_
    obtain ⟨hc2, h⟩ := ck_some h
    refine w_sw k201 2 (Z := (sI Y1 52 0 2 ((l1 + (nI 1)) - (l1 + (nI 1)) / (gI Y1.1 48 0 2) * (gI Y1.1 48 0 2)))) (pc' := 62) (ls' := [(0, aR 48 0), (1, aI l1)]) (st' := []) (cs' := [¬ (gI Y1.1 48 0 2) = 0, vp_in (nI 2) 718, allw 52 0]) (fun _ => rfl) rfl (al2 (nz_of hc2) (al2 (vin rfl) (al1 rfl))) ?_
    replace h := wr_some h
    generalize (sI Y1 52 0 2 ((l1 + (nI 1)) - (l1 + (nI 1)) / (gI Y1.1 48 0 2) * (gI Y1.1 48 0 2))) = Y3 at h ⊢
    obtain rfl := Option.some.inj h
    exact w_return k201 ⟨rfl, rfl⟩
  refine w_sg k201 5 (pc' := 7) (ls' := [(0, aR 48 0), (1, aI (gI Y.1 52 0 2))]) (st' := []) (cs' := [vp_in (nI 2) 718]) (fun _ => rfl) (al1 (vin rfl)) ?_
  refine w_sg k201 4 (pc' := 13) (ls' := [(0, aR 48 0), (1, aI (gI Y.1 52 0 2))]) (st' := [aI (gI Y.1 52 0 3)]) (cs' := [vp_in (nI 3) 718]) (fun _ => rfl) (al1 (vin rfl)) ?_
  refine w_if_ne k201 rfl (fun c => ?_) (fun c => ?_)
  · replace h := if_f c h
    refine w_ls [(0, aR 48 0), (1, aI (gI Y.1 52 0 2))] (lq_c rfl (lq_c rfl lq_n)) ?_
    exact J41_0 _ _ h
  · replace h := if_t c h
    refine w_sg k201 8 (pc' := 30) (ls' := [(0, aR 48 0), (1, aI (gI Y.1 52 0 2))]) (st' := [aR 52 0, aI (nI 99), aI ((nI 36) + (gI Y.1 52 0 2)), aR 52 0]) (cs' := []) (fun _ => rfl) al0 ?_
    obtain ⟨hc4, h⟩ := ck_some h
    refine w_sg k201 6 (pc' := 37) (ls' := [(0, aR 48 0), (1, aI (gI Y.1 52 0 2))]) (st' := [aI ((gI Y.1 52 0 (ix ((nI 36) + (gI Y.1 52 0 2)))) + (nI 1)), aI (nI 99), aI ((nI 36) + (gI Y.1 52 0 2)), aR 52 0]) (cs' := [vp_in ((nI 36) + (gI Y.1 52 0 2)) 718]) (fun _ => rfl) (al1 (vin hc4)) ?_
    obtain ⟨v7, Y5, hv6, h⟩ := bd_some h
    refine w_cS1 k201 (sn_168 _ _ _ _ hv6) rfl (st := [aI ((nI 36) + (gI Y.1 52 0 2)), aR 52 0]) rfl ?_ (fun _ _ q => q.elim)
    refine w_sw k201 1 (Z := (sI Y5 52 0 (ix ((nI 36) + (gI Y.1 52 0 2))) v7)) (pc' := 41) (ls' := [(0, aR 48 0), (1, aI (gI Y.1 52 0 2))]) (st' := []) (cs' := [vp_in ((nI 36) + (gI Y.1 52 0 2)) 718, allw 52 0]) (fun _ => rfl) rfl (al2 (vin hc4) (al1 rfl)) ?_
    replace h := wr_some h
    generalize (sI Y5 52 0 (ix ((nI 36) + (gI Y.1 52 0 2))) v7) = Y8 at h ⊢
    refine w_ls [(0, aR 48 0), (1, aI (gI Y.1 52 0 2))] (lq_c rfl (lq_c rfl lq_n)) ?_
    exact J41_0 _ _ h
set_option maxRecDepth 20000 in
set_option maxHeartbeats 4000000 in
/-- BallotBusModel.counts -/
theorem sn_189 (a1 : Int32) {Y : Sm} (v : Int32) (Z : Sm) (h : fn_189 a1 Y = some (v, Z)) : Mt 4 0 189 [aR 48 0, aI a1] Y (Rt (some (aI v)) Z) nX := by
  refine Mt_of [(0, aR 48 0), (1, aI a1)] ?_
  generalize ho : (v, Z) = o at h
  have hv9 : v = o.1 := congrArg Prod.fst ho
  have hZ9 : Z = o.2 := congrArg Prod.snd ho
  clear ho
  subst hv9 hZ9
  unfold fn_189 at h
  refine w_sg k189 3 (pc' := 5) (ls' := [(0, aR 48 0), (1, aI a1)]) (st' := [aI (gI Y.1 48 0 19), aI a1]) (cs' := []) (fun _ => rfl) al0 ?_
  refine w_icmp_eq k189 rfl (fun c => ?_) (fun c => ?_)
  · replace h := if_t c h
    refine w_sg k189 1 (pc' := 29) (ls' := [(0, aR 48 0), (1, aI a1)]) (st' := [aI (nI 0)]) (cs' := []) (fun _ => rfl) al0 ?_
    obtain rfl := Option.some.inj h
    exact w_zreturn k189 (Or.inl rfl) ⟨rfl, rfl⟩
  · replace h := if_f c h
    obtain ⟨hc1, h⟩ := ck_some h
    refine w_sg k189 8 (pc' := 21) (ls' := [(0, aR 48 0), (1, aI a1)]) (st' := [aI (gI Y.1 48 0 7), aI (gI Y.1 52 0 (ix ((nI 36) + a1)))]) (cs' := [vp_in ((nI 36) + a1) 718]) (fun _ => rfl) (al1 (vin hc1)) ?_
    refine w_icmp_ge k189 rfl (fun c => ?_) (fun c => ?_)
    · replace h := if_t c h
      refine w_sg k189 1 (pc' := 29) (ls' := [(0, aR 48 0), (1, aI a1)]) (st' := [aI (nI 0)]) (cs' := []) (fun _ => rfl) al0 ?_
      obtain rfl := Option.some.inj h
      exact w_zreturn k189 (Or.inl rfl) ⟨rfl, rfl⟩
    · replace h := if_f c h
      refine w_sg k189 2 (pc' := 29) (ls' := [(0, aR 48 0), (1, aI a1)]) (st' := [aI (nI 1)]) (cs' := []) (fun _ => rfl) al0 ?_
      obtain rfl := Option.some.inj h
      exact w_zreturn k189 (Or.inr rfl) ⟨rfl, rfl⟩
set_option maxRecDepth 20000 in
set_option maxHeartbeats 4000000 in
/-- BallotBusModel.doesAnyCount -/
theorem sn_190 {Y : Sm} (v : Int32) (Z : Sm) (h : fn_190 Y = some (v, Z)) : Mt 5 0 190 [aR 48 0] Y (Rt (some (aI v)) Z) nX := by
  refine Mt_of [(0, aR 48 0)] ?_
  generalize ho : (v, Z) = o at h
  have hv9 : v = o.1 := congrArg Prod.fst ho
  have hZ9 : Z = o.2 := congrArg Prod.snd ho
  clear ho
  subst hv9 hZ9
  unfold fn_190 at h
  have L2_0 : ∀ (n : Nat) (l1 : Int32) (Y : Sm), lp (fun s => fn_190_L2 s.1 s.2) n (l1, Y) = some o → Wm 5 0 190 0 2 [(0, aR 48 0), (1, aI l1)] [] Y (Rt (some (aI o.1)) o.2) nX := by
    intro n
    induction n with
    | zero => intro l1 Y h; cases h
    | succ n ih3 =>
      intro l1 Y h
      obtain ⟨q1, h, hn2⟩ := lp_succ h
      replace h : fn_190_L2 l1 Y = some q1 := h
      unfold fn_190_L2 at h
      refine w_sg k190 3 (pc' := 7) (ls' := [(0, aR 48 0), (1, aI l1)]) (st' := [aI (gI Y.1 48 0 2), aI l1]) (cs' := []) (fun _ => rfl) al0 ?_
      refine w_icmp_ge k190 rfl (fun c => ?_) (fun c => ?_)
      · replace h := if_t c h
        refine w_sg k190 1 (pc' := 27) (ls' := [(0, aR 48 0), (1, aI l1)]) (st' := [aI (nI 0)]) (cs' := []) (fun _ => rfl) al0 ?_
        obtain rfl := Option.some.inj h
        obtain rfl := lpn_r hn2
        exact w_zreturn k190 (Or.inl rfl) ⟨rfl, rfl⟩
      · replace h := if_f c h
        refine w_sg k190 2 (pc' := 12) (ls' := [(0, aR 48 0), (1, aI l1)]) (st' := [aI l1, aR 48 0]) (cs' := []) (fun _ => rfl) al0 ?_
        obtain ⟨v6, Y4, hv5, h⟩ := bd_some h
        refine w_cV1 k190 (sn_189 _ _ _ hv5) rfl (st := []) rfl ?_ (fun _ _ q => q.elim)
        refine w_if_eq k190 rfl (fun c => ?_) (fun c => ?_)
        · replace h := if_t c h
          refine w_sg k190 1 (pc' := 23) (ls' := [(0, aR 48 0), (1, aI (l1 + (nI 1)))]) (st' := []) (cs' := []) (fun _ => rfl) al0 ?_
          refine w_sg k190 1 (pc' := 2) (ls' := [(0, aR 48 0), (1, aI (l1 + (nI 1)))]) (st' := []) (cs' := []) (fun _ => rfl) al0 ?_
          refine w_ls [(0, aR 48 0), (1, aI (l1 + (nI 1)))] (lq_c rfl (lq_c rfl lq_n)) ?_
          obtain rfl := Option.some.inj h
          exact ih3 _ _ (lpn_l hn2)
        · replace h := if_f c h
          refine w_sg k190 1 (pc' := 19) (ls' := [(0, aR 48 0), (1, aI l1)]) (st' := [aI (nI 1)]) (cs' := []) (fun _ => rfl) al0 ?_
          obtain rfl := Option.some.inj h
          obtain rfl := lpn_r hn2
          exact w_zreturn k190 (Or.inr rfl) ⟨rfl, rfl⟩
  refine w_sg k190 2 (pc' := 2) (ls' := [(0, aR 48 0), (1, aI (nI 0))]) (st' := []) (cs' := []) (fun _ => rfl) al0 ?_
  refine w_ls [(0, aR 48 0), (1, aI (nI 0))] (lq_c rfl (lq_c rfl lq_n)) ?_
  exact L2_0 _ _ _ h
set_option maxRecDepth 20000 in
set_option maxHeartbeats 4000000 in
/-- BallotBusModel.onBallot -/
theorem sn_191 (a1 : Int32) (a2 : Int32) {Y : Sm} (v : Int32) (Z : Sm) (h : fn_191 a1 a2 Y = some (v, Z)) : Mt 4 0 191 [aR 48 0, aI a1, aI a2] Y (Rt (some (aI v)) Z) nX := by
  refine Mt_of [(0, aR 48 0), (1, aI a1), (2, aI a2)] ?_
  generalize ho : (v, Z) = o at h
  have hv9 : v = o.1 := congrArg Prod.fst ho
  have hZ9 : Z = o.2 := congrArg Prod.snd ho
  clear ho
  subst hv9 hZ9
  unfold fn_191 at h
  refine w_sg k191 8 (pc' := 11) (ls' := [(0, aR 48 0), (1, aI a1), (2, aI a2)]) (st' := [aI a2, aI ((nI 78) + ((nI 5) * a1)), aR 52 0]) (cs' := []) (fun _ => rfl) al0 ?_
  obtain ⟨hc1, h⟩ := ck_some h
  refine w_sg k191 2 (pc' := 13) (ls' := [(0, aR 48 0), (1, aI a1), (2, aI a2)]) (st' := [aI (gI Y.1 52 0 (ix (((nI 78) + ((nI 5) * a1)) + a2)))]) (cs' := [vp_in (((nI 78) + ((nI 5) * a1)) + a2) 718]) (fun _ => rfl) (al1 (vin hc1)) ?_
  obtain rfl := Option.some.inj h
  exact w_ireturn k191 ⟨rfl, rfl⟩
set_option maxRecDepth 20000 in
set_option maxHeartbeats 4000000 in
/-- BallotBusModel.placeOf -/
theorem sn_192 (a1 : Int32) (a2 : Int32) {Y : Sm} (v : Int32) (Z : Sm) (h : fn_192 a1 a2 Y = some (v, Z)) : Mt 5 0 192 [aR 48 0, aI a1, aI a2] Y (Rt (some (aI v)) Z) nX := by
  refine Mt_of [(0, aR 48 0), (1, aI a1), (2, aI a2)] ?_
  generalize ho : (v, Z) = o at h
  have hv9 : v = o.1 := congrArg Prod.fst ho
  have hZ9 : Z = o.2 := congrArg Prod.snd ho
  clear ho
  subst hv9 hZ9
  unfold fn_192 at h
  have L2_0 : ∀ (l1 : Int32) (l2 : Int32) (n : Nat) (l3 : Int32) (Y : Sm), lp (fun s => fn_192_L2 l1 l2 s.1 s.2) n (l3, Y) = some o → Wm 5 0 192 0 2 [(0, aR 48 0), (1, aI l1), (2, aI l2), (3, aI l3)] [] Y (Rt (some (aI o.1)) o.2) nX := by
    intro l1 l2 n
    induction n with
    | zero => intro l3 Y h; cases h
    | succ n ih3 =>
      intro l3 Y h
      obtain ⟨q1, h, hn2⟩ := lp_succ h
      replace h : fn_192_L2 l1 l2 l3 Y = some q1 := h
      unfold fn_192_L2 at h
      refine w_sg k192 3 (pc' := 5) (ls' := [(0, aR 48 0), (1, aI l1), (2, aI l2), (3, aI l3)]) (st' := [aI l3, aI l1, aR 48 0]) (cs' := []) (fun _ => rfl) al0 ?_
      obtain ⟨v6, Y4, hv5, h⟩ := bd_some h
      refine w_cV1 k192 (sn_191 _ _ _ _ hv5) rfl (st := []) rfl ?_ (fun _ _ q => q.elim)
      refine w_sg k192 1 (pc' := 9) (ls' := [(0, aR 48 0), (1, aI l1), (2, aI l2), (3, aI l3)]) (st' := [aI l2, aI v6]) (cs' := []) (fun _ => rfl) al0 ?_
      refine w_icmp_eq k192 rfl (fun c => ?_) (fun c => ?_)
      · replace h := if_t c h
        refine w_sg k192 1 (pc' := 20) (ls' := [(0, aR 48 0), (1, aI l1), (2, aI l2), (3, aI l3)]) (st' := [aI l3]) (cs' := []) (fun _ => rfl) al0 ?_
        obtain rfl := Option.some.inj h
        obtain rfl := lpn_r hn2
        exact w_ireturn k192 ⟨rfl, rfl⟩
      · replace h := if_f c h
        refine w_sg k192 4 (pc' := 16) (ls' := [(0, aR 48 0), (1, aI l1), (2, aI l2), (3, aI (l3 + (nI 1)))]) (st' := []) (cs' := []) (fun _ => rfl) al0 ?_
        refine w_sg k192 1 (pc' := 2) (ls' := [(0, aR 48 0), (1, aI l1), (2, aI l2), (3, aI (l3 + (nI 1)))]) (st' := []) (cs' := []) (fun _ => rfl) al0 ?_
        refine w_ls [(0, aR 48 0), (1, aI l1), (2, aI l2), (3, aI (l3 + (nI 1)))] (lq_c rfl (lq_c rfl (lq_c rfl (lq_c rfl lq_n)))) ?_
        obtain rfl := Option.some.inj h
        exact ih3 _ _ (lpn_l hn2)
  refine w_sg k192 2 (pc' := 2) (ls' := [(0, aR 48 0), (1, aI a1), (2, aI a2), (3, aI (nI 0))]) (st' := []) (cs' := []) (fun _ => rfl) al0 ?_
  refine w_ls [(0, aR 48 0), (1, aI a1), (2, aI a2), (3, aI (nI 0))] (lq_c rfl (lq_c rfl (lq_c rfl (lq_c rfl lq_n)))) ?_
  exact L2_0 _ _ _ _ _ h
set_option maxRecDepth 20000 in
set_option maxHeartbeats 4000000 in
/-- BallotBusModel.pointsOf -/
theorem sn_193 (a1 : Int32) {Y : Sm} (v : Int32) (Z : Sm) (h : fn_193 a1 Y = some (v, Z)) : Mt 6 0 193 [aR 48 0, aI a1] Y (Rt (some (aI v)) Z) nX := by
  refine Mt_of [(0, aR 48 0), (1, aI a1)] ?_
  generalize ho : (v, Z) = o at h
  have hv9 : v = o.1 := congrArg Prod.fst ho
  have hZ9 : Z = o.2 := congrArg Prod.snd ho
  clear ho
  subst hv9 hZ9
  unfold fn_193 at h
  have L4_0 : ∀ (l1 : Int32) (n : Nat) (l2 : Int32) (l3 : Int32) (Y : Sm), lp (fun s => fn_193_L4 l1 s.1 s.2.1 s.2.2) n (l2, l3, Y) = some o → Wm 6 0 193 0 4 [(0, aR 48 0), (1, aI l1), (2, aI l2), (3, aI l3)] [] Y (Rt (some (aI o.1)) o.2) nX := by
    intro l1 n
    induction n with
    | zero => intro l2 l3 Y h; cases h
    | succ n ih3 =>
      intro l2 l3 Y h
      obtain ⟨q1, h, hn2⟩ := lp_succ h
      replace h : fn_193_L4 l1 l2 l3 Y = some q1 := h
      unfold fn_193_L4 at h
      refine w_sg k193 3 (pc' := 9) (ls' := [(0, aR 48 0), (1, aI l1), (2, aI l2), (3, aI l3)]) (st' := [aI (gI Y.1 48 0 2), aI l3]) (cs' := []) (fun _ => rfl) al0 ?_
      refine w_icmp_ge k193 rfl (fun c => ?_) (fun c => ?_)
      · replace h := if_t c h
        refine w_sg k193 1 (pc' := 50) (ls' := [(0, aR 48 0), (1, aI l1), (2, aI l2), (3, aI l3)]) (st' := [aI l2]) (cs' := []) (fun _ => rfl) al0 ?_
        obtain rfl := Option.some.inj h
        obtain rfl := lpn_r hn2
        exact w_ireturn k193 ⟨rfl, rfl⟩
      · replace h := if_f c h
        refine w_sg k193 2 (pc' := 14) (ls' := [(0, aR 48 0), (1, aI l1), (2, aI l2), (3, aI l3)]) (st' := [aI l3, aR 48 0]) (cs' := []) (fun _ => rfl) al0 ?_
        obtain ⟨v6, Y4, hv5, h⟩ := bd_some h
        refine w_cV1 k193 (sn_189 _ _ _ hv5) rfl (st := []) rfl ?_ (fun _ _ q => q.elim)
        refine w_if_eq k193 rfl (fun c => ?_) (fun c => ?_)
        · replace h := if_t c h
          refine w_sg k193 1 (pc' := 46) (ls' := [(0, aR 48 0), (1, aI l1), (2, aI l2), (3, aI (l3 + (nI 1)))]) (st' := []) (cs' := []) (fun _ => rfl) al0 ?_
          refine w_sg k193 1 (pc' := 4) (ls' := [(0, aR 48 0), (1, aI l1), (2, aI l2), (3, aI (l3 + (nI 1)))]) (st' := []) (cs' := []) (fun _ => rfl) al0 ?_
          refine w_ls [(0, aR 48 0), (1, aI l1), (2, aI l2), (3, aI (l3 + (nI 1)))] (lq_c rfl (lq_c rfl (lq_c rfl (lq_c rfl lq_n)))) ?_
          obtain rfl := Option.some.inj h
          exact ih3 _ _ _ (lpn_l hn2)
        · replace h := if_f c h
          obtain ⟨hc7, h⟩ := ck_some h
          refine w_sg k193 8 (pc' := 32) (ls' := [(0, aR 48 0), (1, aI l1), (2, aI l2), (3, aI l3)]) (st' := [aI (nI 1), aI (gI Y4.1 48 0 1), aI (gI Y4.1 49 0 (ix l3)), aI l2]) (cs' := [vp_in l3 8]) (fun _ => rfl) (al1 (vin hc7)) ?_
          refine w_sg k193 4 (pc' := 36) (ls' := [(0, aR 48 0), (1, aI l1), (2, aI l2), (3, aI l3)]) (st' := [aI l1, aI l3, aR 48 0, aI ((gI Y4.1 48 0 1) - (nI 1)), aI (gI Y4.1 49 0 (ix l3)), aI l2]) (cs' := []) (fun _ => rfl) al0 ?_
          obtain ⟨v10, Y8, hv9, h⟩ := bd_some h
          refine w_cV1 k193 (sn_192 _ _ _ _ hv9) rfl (st := [aI ((gI Y4.1 48 0 1) - (nI 1)), aI (gI Y4.1 49 0 (ix l3)), aI l2]) rfl ?_ (fun _ _ q => q.elim)
          refine w_sg k193 4 (pc' := 43) (ls' := [(0, aR 48 0), (1, aI l1), (2, aI (l2 + ((gI Y4.1 49 0 (ix l3)) * (((gI Y4.1 48 0 1) - (nI 1)) - v10)))), (3, aI l3)]) (st' := []) (cs' := []) (fun _ => rfl) al0 ?_
          refine w_sg k193 1 (pc' := 46) (ls' := [(0, aR 48 0), (1, aI l1), (2, aI (l2 + ((gI Y4.1 49 0 (ix l3)) * (((gI Y4.1 48 0 1) - (nI 1)) - v10)))), (3, aI (l3 + (nI 1)))]) (st' := []) (cs' := []) (fun _ => rfl) al0 ?_
          refine w_sg k193 1 (pc' := 4) (ls' := [(0, aR 48 0), (1, aI l1), (2, aI (l2 + ((gI Y4.1 49 0 (ix l3)) * (((gI Y4.1 48 0 1) - (nI 1)) - v10)))), (3, aI (l3 + (nI 1)))]) (st' := []) (cs' := []) (fun _ => rfl) al0 ?_
          refine w_ls [(0, aR 48 0), (1, aI l1), (2, aI (l2 + ((gI Y4.1 49 0 (ix l3)) * (((gI Y4.1 48 0 1) - (nI 1)) - v10)))), (3, aI (l3 + (nI 1)))] (lq_c rfl (lq_c rfl (lq_c rfl (lq_c rfl lq_n)))) ?_
          obtain rfl := Option.some.inj h
          exact ih3 _ _ _ (lpn_l hn2)
  refine w_sg k193 2 (pc' := 2) (ls' := [(0, aR 48 0), (1, aI a1), (2, aI (nI 0))]) (st' := []) (cs' := []) (fun _ => rfl) al0 ?_
  refine w_sg k193 2 (pc' := 4) (ls' := [(0, aR 48 0), (1, aI a1), (2, aI (nI 0)), (3, aI (nI 0))]) (st' := []) (cs' := []) (fun _ => rfl) al0 ?_
  refine w_ls [(0, aR 48 0), (1, aI a1), (2, aI (nI 0)), (3, aI (nI 0))] (lq_c rfl (lq_c rfl (lq_c rfl (lq_c rfl lq_n)))) ?_
  exact L4_0 _ _ _ _ _ h
set_option maxRecDepth 20000 in
set_option maxHeartbeats 4000000 in
/-- BallotBusModel.leadOf -/
theorem sn_195 (a1 : Int32) (a2 : Int32) {Y : Sm} (v : Int32) (Z : Sm) (h : fn_195 a1 a2 Y = some (v, Z)) : Mt 6 0 195 [aR 48 0, aI a1, aI a2] Y (Rt (some (aI v)) Z) nX := by
  refine Mt_of [(0, aR 48 0), (1, aI a1), (2, aI a2)] ?_
  generalize ho : (v, Z) = o at h
  have hv9 : v = o.1 := congrArg Prod.fst ho
  have hZ9 : Z = o.2 := congrArg Prod.snd ho
  clear ho
  subst hv9 hZ9
  unfold fn_195 at h
  have L5_0 : ∀ (l1 : Int32) (l2 : Int32) (n : Nat) (l3 : Int32) (l4 : Int32) (Y : Sm), lp (fun s => fn_195_L5 l1 l2 s.1 s.2.1 s.2.2) n (l3, l4, Y) = some o → Wm 6 0 195 0 5 [(0, aR 48 0), (1, aI l1), (2, aI l2), (3, aI l3), (4, aI l4)] [] Y (Rt (some (aI o.1)) o.2) nX := by
    intro l1 l2 n
    induction n with
    | zero => intro l3 l4 Y h; cases h
    | succ n ih3 =>
      intro l3 l4 Y h
      obtain ⟨q1, h, hn2⟩ := lp_succ h
      replace h : fn_195_L5 l1 l2 l3 l4 Y = some q1 := h
      unfold fn_195_L5 at h
      refine w_sg k195 3 (pc' := 11) (ls' := [(0, aR 48 0), (1, aI l1), (2, aI l2), (3, aI l3), (4, aI l4)]) (st' := [aI (gI Y.1 48 0 2), aI l4]) (cs' := []) (fun _ => rfl) al0 ?_
      refine w_icmp_ge k195 rfl (fun c => ?_) (fun c => ?_)
      · replace h := if_t c h
        refine w_sg k195 1 (pc' := 71) (ls' := [(0, aR 48 0), (1, aI l1), (2, aI l2), (3, aI l3), (4, aI l4)]) (st' := [aI l3]) (cs' := []) (fun _ => rfl) al0 ?_
        obtain rfl := Option.some.inj h
        obtain rfl := lpn_r hn2
        exact w_ireturn k195 ⟨rfl, rfl⟩
      · replace h := if_f c h
        refine w_sg k195 2 (pc' := 17) (ls' := [(0, aR 48 0), (1, aI l1), (2, aI l2), (3, aI l3), (4, aI l4)]) (st' := [aI l4, aR 48 0]) (cs' := []) (fun _ => rfl) al0 ?_
        obtain ⟨v6, Y4, hv5, h⟩ := bd_some h
        refine w_cV1 k195 (sn_189 _ _ _ hv5) rfl (st := []) rfl ?_ (fun _ _ q => q.elim)
        refine w_if_ne k195 rfl (fun c => ?_) (fun c => ?_)
        · replace h := if_f c h
          refine w_sg k195 4 (pc' := 31) (ls' := [(0, aR 48 0), (1, aI l1), (2, aI l2), (3, aI l3), (4, aI l4)]) (st' := [aI l1, aI l4, aR 48 0, aI l3]) (cs' := []) (fun _ => rfl) al0 ?_
          obtain ⟨v9, Y7, hv8, h⟩ := bd_some h
          refine w_cV1 k195 (sn_192 _ _ _ _ hv8) rfl (st := [aI l3]) rfl ?_ (fun _ _ q => q.elim)
          refine w_sg k195 3 (pc' := 38) (ls' := [(0, aR 48 0), (1, aI l1), (2, aI l2), (3, aI l3), (4, aI l4)]) (st' := [aI l2, aI l4, aR 48 0, aI v9, aI l3]) (cs' := []) (fun _ => rfl) al0 ?_
          obtain ⟨v12, Y10, hv11, h⟩ := bd_some h
          refine w_cV1 k195 (sn_192 _ _ _ _ hv11) rfl (st := [aI v9, aI l3]) rfl ?_ (fun _ _ q => q.elim)
          refine w_icmp_ge k195 rfl (fun c => ?_) (fun c => ?_)
          · replace h := if_t c h
            obtain ⟨hc13, h⟩ := ck_some h
            refine w_sg k195 7 (pc' := 64) (ls' := [(0, aR 48 0), (1, aI l1), (2, aI l2), (3, aI (l3 + (-(gI Y10.1 49 0 (ix l4))))), (4, aI l4)]) (st' := []) (cs' := [vp_in l4 8]) (fun _ => rfl) (al1 (vin hc13)) ?_
            refine w_sg k195 1 (pc' := 67) (ls' := [(0, aR 48 0), (1, aI l1), (2, aI l2), (3, aI (l3 + (-(gI Y10.1 49 0 (ix l4))))), (4, aI (l4 + (nI 1)))]) (st' := []) (cs' := []) (fun _ => rfl) al0 ?_
            refine w_sg k195 1 (pc' := 5) (ls' := [(0, aR 48 0), (1, aI l1), (2, aI l2), (3, aI (l3 + (-(gI Y10.1 49 0 (ix l4))))), (4, aI (l4 + (nI 1)))]) (st' := []) (cs' := []) (fun _ => rfl) al0 ?_
            refine w_ls [(0, aR 48 0), (1, aI l1), (2, aI l2), (3, aI (l3 + (-(gI Y10.1 49 0 (ix l4))))), (4, aI (l4 + (nI 1)))] (lq_c rfl (lq_c rfl (lq_c rfl (lq_c rfl (lq_c rfl lq_n))))) ?_
            obtain rfl := Option.some.inj h
            exact ih3 _ _ _ (lpn_l hn2)
          · replace h := if_f c h
            obtain ⟨hc14, h⟩ := ck_some h
            refine w_sg k195 7 (pc' := 64) (ls' := [(0, aR 48 0), (1, aI l1), (2, aI l2), (3, aI (l3 + (gI Y10.1 49 0 (ix l4)))), (4, aI l4)]) (st' := []) (cs' := [vp_in l4 8]) (fun _ => rfl) (al1 (vin hc14)) ?_
            refine w_sg k195 1 (pc' := 67) (ls' := [(0, aR 48 0), (1, aI l1), (2, aI l2), (3, aI (l3 + (gI Y10.1 49 0 (ix l4)))), (4, aI (l4 + (nI 1)))]) (st' := []) (cs' := []) (fun _ => rfl) al0 ?_
            refine w_sg k195 1 (pc' := 5) (ls' := [(0, aR 48 0), (1, aI l1), (2, aI l2), (3, aI (l3 + (gI Y10.1 49 0 (ix l4)))), (4, aI (l4 + (nI 1)))]) (st' := []) (cs' := []) (fun _ => rfl) al0 ?_
            refine w_ls [(0, aR 48 0), (1, aI l1), (2, aI l2), (3, aI (l3 + (gI Y10.1 49 0 (ix l4)))), (4, aI (l4 + (nI 1)))] (lq_c rfl (lq_c rfl (lq_c rfl (lq_c rfl (lq_c rfl lq_n))))) ?_
            obtain rfl := Option.some.inj h
            exact ih3 _ _ _ (lpn_l hn2)
        · replace h := if_t c h
          refine w_sg k195 2 (pc' := 67) (ls' := [(0, aR 48 0), (1, aI l1), (2, aI l2), (3, aI l3), (4, aI (l4 + (nI 1)))]) (st' := []) (cs' := []) (fun _ => rfl) al0 ?_
          refine w_sg k195 1 (pc' := 5) (ls' := [(0, aR 48 0), (1, aI l1), (2, aI l2), (3, aI l3), (4, aI (l4 + (nI 1)))]) (st' := []) (cs' := []) (fun _ => rfl) al0 ?_
          refine w_ls [(0, aR 48 0), (1, aI l1), (2, aI l2), (3, aI l3), (4, aI (l4 + (nI 1)))] (lq_c rfl (lq_c rfl (lq_c rfl (lq_c rfl (lq_c rfl lq_n))))) ?_
          obtain rfl := Option.some.inj h
          exact ih3 _ _ _ (lpn_l hn2)
  refine w_sg k195 2 (pc' := 2) (ls' := [(0, aR 48 0), (1, aI a1), (2, aI a2), (3, aI (nI 0))]) (st' := []) (cs' := []) (fun _ => rfl) al0 ?_
  refine w_sg k195 2 (pc' := 5) (ls' := [(0, aR 48 0), (1, aI a1), (2, aI a2), (3, aI (nI 0)), (4, aI (nI 0))]) (st' := []) (cs' := []) (fun _ => rfl) al0 ?_
  refine w_ls [(0, aR 48 0), (1, aI a1), (2, aI a2), (3, aI (nI 0)), (4, aI (nI 0))] (lq_c rfl (lq_c rfl (lq_c rfl (lq_c rfl (lq_c rfl lq_n))))) ?_
  exact L5_0 _ _ _ _ _ _ h
set_option maxRecDepth 20000 in
set_option maxHeartbeats 4000000 in
/-- BallotBusModel.doesBeat -/
theorem sn_196 (a1 : Int32) (a2 : Int32) {Y : Sm} (v : Int32) (Z : Sm) (h : fn_196 a1 a2 Y = some (v, Z)) : Mt 7 0 196 [aR 48 0, aI a1, aI a2] Y (Rt (some (aI v)) Z) nX := by
  refine Mt_of [(0, aR 48 0), (1, aI a1), (2, aI a2)] ?_
  generalize ho : (v, Z) = o at h
  have hv9 : v = o.1 := congrArg Prod.fst ho
  have hZ9 : Z = o.2 := congrArg Prod.snd ho
  clear ho
  subst hv9 hZ9
  unfold fn_196 at h
  refine w_sg k196 2 (pc' := 2) (ls' := [(0, aR 48 0), (1, aI a1), (2, aI a2)]) (st' := [aI a2, aI a1]) (cs' := []) (fun _ => rfl) al0 ?_
  refine w_icmp_eq k196 rfl (fun c => ?_) (fun c => ?_)
  · replace h := if_t c h
    refine w_sg k196 1 (pc' := 19) (ls' := [(0, aR 48 0), (1, aI a1), (2, aI a2)]) (st' := [aI (nI 0)]) (cs' := []) (fun _ => rfl) al0 ?_
    obtain rfl := Option.some.inj h
    exact w_zreturn k196 (Or.inl rfl) ⟨rfl, rfl⟩
  · replace h := if_f c h
    refine w_sg k196 3 (pc' := 8) (ls' := [(0, aR 48 0), (1, aI a1), (2, aI a2)]) (st' := [aI a2, aI a1, aR 48 0]) (cs' := []) (fun _ => rfl) al0 ?_
    obtain ⟨v3, Y1, hv2, h⟩ := bd_some h
    refine w_cV1 k196 (sn_195 _ _ _ _ hv2) rfl (st := []) rfl ?_ (fun _ _ q => q.elim)
    refine w_if_le k196 rfl (fun c => ?_) (fun c => ?_)
    · replace h := if_t c h
      refine w_sg k196 1 (pc' := 19) (ls' := [(0, aR 48 0), (1, aI a1), (2, aI a2)]) (st' := [aI (nI 0)]) (cs' := []) (fun _ => rfl) al0 ?_
      obtain rfl := Option.some.inj h
      exact w_zreturn k196 (Or.inl rfl) ⟨rfl, rfl⟩
    · replace h := if_f c h
      refine w_sg k196 2 (pc' := 19) (ls' := [(0, aR 48 0), (1, aI a1), (2, aI a2)]) (st' := [aI (nI 1)]) (cs' := []) (fun _ => rfl) al0 ?_
      obtain rfl := Option.some.inj h
      exact w_zreturn k196 (Or.inr rfl) ⟨rfl, rfl⟩
set_option maxRecDepth 20000 in
set_option maxHeartbeats 4000000 in
/-- BallotBusModel.winsOf -/
theorem sn_197 (a1 : Int32) {Y : Sm} (v : Int32) (Z : Sm) (h : fn_197 a1 Y = some (v, Z)) : Mt 8 0 197 [aR 48 0, aI a1] Y (Rt (some (aI v)) Z) nX := by
  refine Mt_of [(0, aR 48 0), (1, aI a1)] ?_
  generalize ho : (v, Z) = o at h
  have hv9 : v = o.1 := congrArg Prod.fst ho
  have hZ9 : Z = o.2 := congrArg Prod.snd ho
  clear ho
  subst hv9 hZ9
  unfold fn_197 at h
  have L4_0 : ∀ (l1 : Int32) (n : Nat) (l2 : Int32) (l3 : Int32) (Y : Sm), lp (fun s => fn_197_L4 l1 s.1 s.2.1 s.2.2) n (l2, l3, Y) = some o → Wm 8 0 197 0 4 [(0, aR 48 0), (1, aI l1), (2, aI l2), (3, aI l3)] [] Y (Rt (some (aI o.1)) o.2) nX := by
    intro l1 n
    induction n with
    | zero => intro l2 l3 Y h; cases h
    | succ n ih3 =>
      intro l2 l3 Y h
      obtain ⟨q1, h, hn2⟩ := lp_succ h
      replace h : fn_197_L4 l1 l2 l3 Y = some q1 := h
      unfold fn_197_L4 at h
      refine w_sg k197 3 (pc' := 9) (ls' := [(0, aR 48 0), (1, aI l1), (2, aI l2), (3, aI l3)]) (st' := [aI (gI Y.1 48 0 1), aI l3]) (cs' := []) (fun _ => rfl) al0 ?_
      refine w_icmp_ge k197 rfl (fun c => ?_) (fun c => ?_)
      · replace h := if_t c h
        refine w_sg k197 1 (pc' := 32) (ls' := [(0, aR 48 0), (1, aI l1), (2, aI l2), (3, aI l3)]) (st' := [aI l2]) (cs' := []) (fun _ => rfl) al0 ?_
        obtain rfl := Option.some.inj h
        obtain rfl := lpn_r hn2
        exact w_ireturn k197 ⟨rfl, rfl⟩
      · replace h := if_f c h
        refine w_sg k197 3 (pc' := 15) (ls' := [(0, aR 48 0), (1, aI l1), (2, aI l2), (3, aI l3)]) (st' := [aI l3, aI l1, aR 48 0]) (cs' := []) (fun _ => rfl) al0 ?_
        obtain ⟨v6, Y4, hv5, h⟩ := bd_some h
        refine w_cV1 k197 (sn_196 _ _ _ _ hv5) rfl (st := []) rfl ?_ (fun _ _ q => q.elim)
        refine w_if_eq k197 rfl (fun c => ?_) (fun c => ?_)
        · replace h := if_t c h
          refine w_sg k197 1 (pc' := 28) (ls' := [(0, aR 48 0), (1, aI l1), (2, aI l2), (3, aI (l3 + (nI 1)))]) (st' := []) (cs' := []) (fun _ => rfl) al0 ?_
          refine w_sg k197 1 (pc' := 4) (ls' := [(0, aR 48 0), (1, aI l1), (2, aI l2), (3, aI (l3 + (nI 1)))]) (st' := []) (cs' := []) (fun _ => rfl) al0 ?_
          refine w_ls [(0, aR 48 0), (1, aI l1), (2, aI l2), (3, aI (l3 + (nI 1)))] (lq_c rfl (lq_c rfl (lq_c rfl (lq_c rfl lq_n)))) ?_
          obtain rfl := Option.some.inj h
          exact ih3 _ _ _ (lpn_l hn2)
        · replace h := if_f c h
          refine w_sg k197 4 (pc' := 25) (ls' := [(0, aR 48 0), (1, aI l1), (2, aI (l2 + (nI 1))), (3, aI l3)]) (st' := []) (cs' := []) (fun _ => rfl) al0 ?_
          refine w_sg k197 1 (pc' := 28) (ls' := [(0, aR 48 0), (1, aI l1), (2, aI (l2 + (nI 1))), (3, aI (l3 + (nI 1)))]) (st' := []) (cs' := []) (fun _ => rfl) al0 ?_
          refine w_sg k197 1 (pc' := 4) (ls' := [(0, aR 48 0), (1, aI l1), (2, aI (l2 + (nI 1))), (3, aI (l3 + (nI 1)))]) (st' := []) (cs' := []) (fun _ => rfl) al0 ?_
          refine w_ls [(0, aR 48 0), (1, aI l1), (2, aI (l2 + (nI 1))), (3, aI (l3 + (nI 1)))] (lq_c rfl (lq_c rfl (lq_c rfl (lq_c rfl lq_n)))) ?_
          obtain rfl := Option.some.inj h
          exact ih3 _ _ _ (lpn_l hn2)
  refine w_sg k197 2 (pc' := 2) (ls' := [(0, aR 48 0), (1, aI a1), (2, aI (nI 0))]) (st' := []) (cs' := []) (fun _ => rfl) al0 ?_
  refine w_sg k197 2 (pc' := 4) (ls' := [(0, aR 48 0), (1, aI a1), (2, aI (nI 0)), (3, aI (nI 0))]) (st' := []) (cs' := []) (fun _ => rfl) al0 ?_
  refine w_ls [(0, aR 48 0), (1, aI a1), (2, aI (nI 0)), (3, aI (nI 0))] (lq_c rfl (lq_c rfl (lq_c rfl (lq_c rfl lq_n)))) ?_
  exact L4_0 _ _ _ _ _ h
set_option maxRecDepth 20000 in
set_option maxHeartbeats 4000000 in
/-- BallotBusModel.firstsOf -/
theorem sn_194 (a1 : Int32) (a2 : Int32) {Y : Sm} (v : Int32) (Z : Sm) (h : fn_194 a1 a2 Y = some (v, Z)) : Mt 5 0 194 [aR 48 0, aI a1, aI a2] Y (Rt (some (aI v)) Z) nX := by
  refine Mt_of [(0, aR 48 0), (1, aI a1), (2, aI a2)] ?_
  generalize ho : (v, Z) = o at h
  have hv9 : v = o.1 := congrArg Prod.fst ho
  have hZ9 : Z = o.2 := congrArg Prod.snd ho
  clear ho
  subst hv9 hZ9
  unfold fn_194 at h
  have L5_0 : ∀ (l1 : Int32) (l2 : Int32) (n : Nat) (l3 : Int32) (l4 : Int32) (Y : Sm), lp (fun s => fn_194_L5 l1 l2 s.1 s.2.1 s.2.2) n (l3, l4, Y) = some o → Wm 5 0 194 0 5 [(0, aR 48 0), (1, aI l1), (2, aI l2), (3, aI l3), (4, aI l4)] [] Y (Rt (some (aI o.1)) o.2) nX := by
    intro l1 l2 n
    induction n with
    | zero => intro l3 l4 Y h; cases h
    | succ n ih3 =>
      intro l3 l4 Y h
      obtain ⟨q1, h, hn2⟩ := lp_succ h
      replace h : fn_194_L5 l1 l2 l3 l4 Y = some q1 := h
      unfold fn_194_L5 at h
      refine w_sg k194 3 (pc' := 11) (ls' := [(0, aR 48 0), (1, aI l1), (2, aI l2), (3, aI l3), (4, aI l4)]) (st' := [aI (gI Y.1 48 0 2), aI l4]) (cs' := []) (fun _ => rfl) al0 ?_
      refine w_icmp_ge k194 rfl (fun c => ?_) (fun c => ?_)
      · replace h := if_t c h
        refine w_sg k194 1 (pc' := 51) (ls' := [(0, aR 48 0), (1, aI l1), (2, aI l2), (3, aI l3), (4, aI l4)]) (st' := [aI l3]) (cs' := []) (fun _ => rfl) al0 ?_
        obtain rfl := Option.some.inj h
        obtain rfl := lpn_r hn2
        exact w_ireturn k194 ⟨rfl, rfl⟩
      · replace h := if_f c h
        refine w_sg k194 2 (pc' := 17) (ls' := [(0, aR 48 0), (1, aI l1), (2, aI l2), (3, aI l3), (4, aI l4)]) (st' := [aI l4, aR 48 0]) (cs' := []) (fun _ => rfl) al0 ?_
        obtain ⟨v6, Y4, hv5, h⟩ := bd_some h
        refine w_cV1 k194 (sn_189 _ _ _ hv5) rfl (st := []) rfl ?_ (fun _ _ q => q.elim)
        refine w_if_eq k194 rfl (fun c => ?_) (fun c => ?_)
        · replace h := if_t c h
          refine w_sg k194 1 (pc' := 47) (ls' := [(0, aR 48 0), (1, aI l1), (2, aI l2), (3, aI l3), (4, aI (l4 + (nI 1)))]) (st' := []) (cs' := []) (fun _ => rfl) al0 ?_
          refine w_sg k194 1 (pc' := 5) (ls' := [(0, aR 48 0), (1, aI l1), (2, aI l2), (3, aI l3), (4, aI (l4 + (nI 1)))]) (st' := []) (cs' := []) (fun _ => rfl) al0 ?_
          refine w_ls [(0, aR 48 0), (1, aI l1), (2, aI l2), (3, aI l3), (4, aI (l4 + (nI 1)))] (lq_c rfl (lq_c rfl (lq_c rfl (lq_c rfl (lq_c rfl lq_n))))) ?_
          obtain rfl := Option.some.inj h
          exact ih3 _ _ _ (lpn_l hn2)
        · replace h := if_f c h
          refine w_sg k194 3 (pc' := 27) (ls' := [(0, aR 48 0), (1, aI l1), (2, aI l2), (3, aI l3), (4, aI l4)]) (st' := [aI l2, aI l4, aR 48 0]) (cs' := []) (fun _ => rfl) al0 ?_
          obtain ⟨v9, Y7, hv8, h⟩ := bd_some h
          refine w_cV1 k194 (sn_191 _ _ _ _ hv8) rfl (st := []) rfl ?_ (fun _ _ q => q.elim)
          refine w_sg k194 1 (pc' := 31) (ls' := [(0, aR 48 0), (1, aI l1), (2, aI l2), (3, aI l3), (4, aI l4)]) (st' := [aI l1, aI v9]) (cs' := []) (fun _ => rfl) al0 ?_
          refine w_icmp_ne k194 rfl (fun c => ?_) (fun c => ?_)
          · replace h := if_f c h
            refine w_sg k194 1 (pc' := 47) (ls' := [(0, aR 48 0), (1, aI l1), (2, aI l2), (3, aI l3), (4, aI (l4 + (nI 1)))]) (st' := []) (cs' := []) (fun _ => rfl) al0 ?_
            refine w_sg k194 1 (pc' := 5) (ls' := [(0, aR 48 0), (1, aI l1), (2, aI l2), (3, aI l3), (4, aI (l4 + (nI 1)))]) (st' := []) (cs' := []) (fun _ => rfl) al0 ?_
            refine w_ls [(0, aR 48 0), (1, aI l1), (2, aI l2), (3, aI l3), (4, aI (l4 + (nI 1)))] (lq_c rfl (lq_c rfl (lq_c rfl (lq_c rfl (lq_c rfl lq_n))))) ?_
            obtain rfl := Option.some.inj h
            exact ih3 _ _ _ (lpn_l hn2)
          · replace h := if_t c h
            obtain ⟨hc10, h⟩ := ck_some h
            refine w_sg k194 7 (pc' := 44) (ls' := [(0, aR 48 0), (1, aI l1), (2, aI l2), (3, aI (l3 + (gI Y7.1 49 0 (ix l4)))), (4, aI l4)]) (st' := []) (cs' := [vp_in l4 8]) (fun _ => rfl) (al1 (vin hc10)) ?_
            refine w_sg k194 1 (pc' := 47) (ls' := [(0, aR 48 0), (1, aI l1), (2, aI l2), (3, aI (l3 + (gI Y7.1 49 0 (ix l4)))), (4, aI (l4 + (nI 1)))]) (st' := []) (cs' := []) (fun _ => rfl) al0 ?_
            refine w_sg k194 1 (pc' := 5) (ls' := [(0, aR 48 0), (1, aI l1), (2, aI l2), (3, aI (l3 + (gI Y7.1 49 0 (ix l4)))), (4, aI (l4 + (nI 1)))]) (st' := []) (cs' := []) (fun _ => rfl) al0 ?_
            refine w_ls [(0, aR 48 0), (1, aI l1), (2, aI l2), (3, aI (l3 + (gI Y7.1 49 0 (ix l4)))), (4, aI (l4 + (nI 1)))] (lq_c rfl (lq_c rfl (lq_c rfl (lq_c rfl (lq_c rfl lq_n))))) ?_
            obtain rfl := Option.some.inj h
            exact ih3 _ _ _ (lpn_l hn2)
  refine w_sg k194 2 (pc' := 2) (ls' := [(0, aR 48 0), (1, aI a1), (2, aI a2), (3, aI (nI 0))]) (st' := []) (cs' := []) (fun _ => rfl) al0 ?_
  refine w_sg k194 2 (pc' := 5) (ls' := [(0, aR 48 0), (1, aI a1), (2, aI a2), (3, aI (nI 0)), (4, aI (nI 0))]) (st' := []) (cs' := []) (fun _ => rfl) al0 ?_
  refine w_ls [(0, aR 48 0), (1, aI a1), (2, aI a2), (3, aI (nI 0)), (4, aI (nI 0))] (lq_c rfl (lq_c rfl (lq_c rfl (lq_c rfl (lq_c rfl lq_n))))) ?_
  exact L5_0 _ _ _ _ _ _ h
set_option maxRecDepth 20000 in
set_option maxHeartbeats 4000000 in
/-- BallotBusModel.isBetter -/
theorem sn_198 (a1 : Int32) (a2 : Int32) (a3 : Int32) {Y : Sm} (v : Int32) (Z : Sm) (h : fn_198 a1 a2 a3 Y = some (v, Z)) : Mt 9 0 198 [aR 48 0, aI a1, aI a2, aI a3] Y (Rt (some (aI v)) Z) nX := by
  refine Mt_of [(0, aR 48 0), (1, aI a1), (2, aI a2), (3, aI a3)] ?_
  generalize ho : (v, Z) = o at h
  have hv9 : v = o.1 := congrArg Prod.fst ho
  have hZ9 : Z = o.2 := congrArg Prod.snd ho
  clear ho
  subst hv9 hZ9
  unfold fn_198 at h
  have J111_0 : ∀ (l2 : Int32) (l3 : Int32) (Y : Sm), fn_198_J111 l2 l3 Y = some o → Wm 9 0 198 0 111 [(0, aR 48 0), (2, aI l2), (3, aI l3)] [] Y (Rt (some (aI o.1)) o.2) nX := by
    intro l2 l3 Y h
    unfold fn_198_J111 at h
    refine w_sg k198 2 (pc' := 113) (ls' := [(0, aR 48 0), (2, aI l2), (3, aI l3)]) (st' := [aI l2, aR 48 0]) (cs' := []) (fun _ => rfl) al0 ?_
    obtain ⟨v3, Y1, hv2, h⟩ := bd_some h
    refine w_cV1 k198 (sn_193 _ _ _ hv2) rfl (st := []) rfl ?_ (fun _ _ q => q.elim)
    refine w_sg k198 2 (pc' := 118) (ls' := [(0, aR 48 0), (2, aI l2), (3, aI l3)]) (st' := [aI l3, aR 48 0, aI v3]) (cs' := []) (fun _ => rfl) al0 ?_
    obtain ⟨v6, Y4, hv5, h⟩ := bd_some h
    refine w_cV1 k198 (sn_193 _ _ _ hv5) rfl (st := [aI v3]) rfl ?_ (fun _ _ q => q.elim)
    refine w_icmp_eq k198 rfl (fun c => ?_) (fun c => ?_)
    · replace h := if_t c h
      refine w_sg k198 2 (pc' := 145) (ls' := [(0, aR 48 0), (2, aI l2), (3, aI l3)]) (st' := [aI l3, aI l2]) (cs' := []) (fun _ => rfl) al0 ?_
      refine w_icmp_ge k198 rfl (fun c => ?_) (fun c => ?_)
      · replace h := if_t c h
        refine w_sg k198 1 (pc' := 153) (ls' := [(0, aR 48 0), (2, aI l2), (3, aI l3)]) (st' := [aI (nI 0)]) (cs' := []) (fun _ => rfl) al0 ?_
        obtain rfl := Option.some.inj h
        exact w_zreturn k198 (Or.inl rfl) ⟨rfl, rfl⟩
      · replace h := if_f c h
        refine w_sg k198 2 (pc' := 153) (ls' := [(0, aR 48 0), (2, aI l2), (3, aI l3)]) (st' := [aI (nI 1)]) (cs' := []) (fun _ => rfl) al0 ?_
        obtain rfl := Option.some.inj h
        exact w_zreturn k198 (Or.inr rfl) ⟨rfl, rfl⟩
    · replace h := if_f c h
      refine w_sg k198 2 (pc' := 126) (ls' := [(0, aR 48 0), (2, aI l2), (3, aI l3)]) (st' := [aI l2, aR 48 0]) (cs' := []) (fun _ => rfl) al0 ?_
      obtain ⟨v9, Y7, hv8, h⟩ := bd_some h
      refine w_cV1 k198 (sn_193 _ _ _ hv8) rfl (st := []) rfl ?_ (fun _ _ q => q.elim)
      refine w_sg k198 2 (pc' := 131) (ls' := [(0, aR 48 0), (2, aI l2), (3, aI l3)]) (st' := [aI l3, aR 48 0, aI v9]) (cs' := []) (fun _ => rfl) al0 ?_
      obtain ⟨v12, Y10, hv11, h⟩ := bd_some h
      refine w_cV1 k198 (sn_193 _ _ _ hv11) rfl (st := [aI v9]) rfl ?_ (fun _ _ q => q.elim)
      refine w_icmp_le k198 rfl (fun c => ?_) (fun c => ?_)
      · replace h := if_t c h
        refine w_sg k198 1 (pc' := 142) (ls' := [(0, aR 48 0), (2, aI l2), (3, aI l3)]) (st' := [aI (nI 0)]) (cs' := []) (fun _ => rfl) al0 ?_
        obtain rfl := Option.some.inj h
        exact w_zreturn k198 (Or.inl rfl) ⟨rfl, rfl⟩
      · replace h := if_f c h
        refine w_sg k198 2 (pc' := 142) (ls' := [(0, aR 48 0), (2, aI l2), (3, aI l3)]) (st' := [aI (nI 1)]) (cs' := []) (fun _ => rfl) al0 ?_
        obtain rfl := Option.some.inj h
        exact w_zreturn k198 (Or.inr rfl) ⟨rfl, rfl⟩
  have L8_0 : ∀ (l2 : Int32) (l3 : Int32) (n : Nat) (l4 : Int32) (Y : Sm), lp (fun s => fn_198_L8 l2 l3 s.1 s.2) n (l4, Y) = some o → Wm 9 0 198 0 8 [(0, aR 48 0), (2, aI l2), (3, aI l3), (4, aI l4)] [] Y (Rt (some (aI o.1)) o.2) nX := by
    intro l2 l3 n
    induction n with
    | zero => intro l4 Y h; cases h
    | succ n ih27 =>
      intro l4 Y h
      obtain ⟨q25, h, hn26⟩ := lp_succ h
      replace h : fn_198_L8 l2 l3 l4 Y = some q25 := h
      unfold fn_198_L8 at h
      refine w_sg k198 3 (pc' := 14) (ls' := [(0, aR 48 0), (2, aI l2), (3, aI l3), (4, aI l4)]) (st' := [aI (gI Y.1 48 0 1), aI l4]) (cs' := []) (fun _ => rfl) al0 ?_
      refine w_icmp_ge k198 rfl (fun c => ?_) (fun c => ?_)
      · replace h := if_t c h
        refine w_sg k198 2 (pc' := 65) (ls' := [(0, aR 48 0), (2, aI l2), (3, aI l3), (4, aI l4)]) (st' := [aI l3, aI l2]) (cs' := []) (fun _ => rfl) al0 ?_
        refine w_icmp_ge k198 rfl (fun c => ?_) (fun c => ?_)
        · replace h := if_t c h
          refine w_sg k198 1 (pc' := 73) (ls' := [(0, aR 48 0), (2, aI l2), (3, aI l3), (4, aI l4)]) (st' := [aI (nI 0)]) (cs' := []) (fun _ => rfl) al0 ?_
          obtain rfl := Option.some.inj h
          obtain rfl := lpn_r hn26
          exact w_zreturn k198 (Or.inl rfl) ⟨rfl, rfl⟩
        · replace h := if_f c h
          refine w_sg k198 2 (pc' := 73) (ls' := [(0, aR 48 0), (2, aI l2), (3, aI l3), (4, aI l4)]) (st' := [aI (nI 1)]) (cs' := []) (fun _ => rfl) al0 ?_
          obtain rfl := Option.some.inj h
          obtain rfl := lpn_r hn26
          exact w_zreturn k198 (Or.inr rfl) ⟨rfl, rfl⟩
      · replace h := if_f c h
        refine w_sg k198 3 (pc' := 21) (ls' := [(0, aR 48 0), (2, aI l2), (3, aI l3), (4, aI l4)]) (st' := [aI l4, aI l2, aR 48 0]) (cs' := []) (fun _ => rfl) al0 ?_
        obtain ⟨v30, Y28, hv29, h⟩ := bd_some h
        refine w_cV1 k198 (sn_194 _ _ _ _ hv29) rfl (st := []) rfl ?_ (fun _ _ q => q.elim)
        refine w_sg k198 3 (pc' := 28) (ls' := [(0, aR 48 0), (2, aI l2), (3, aI l3), (4, aI l4)]) (st' := [aI l4, aI l3, aR 48 0, aI v30]) (cs' := []) (fun _ => rfl) al0 ?_
        obtain ⟨v33, Y31, hv32, h⟩ := bd_some h
        refine w_cV1 k198 (sn_194 _ _ _ _ hv32) rfl (st := [aI v30]) rfl ?_ (fun _ _ q => q.elim)
        refine w_icmp_eq k198 rfl (fun c => ?_) (fun c => ?_)
        · replace h := if_t c h
          refine w_sg k198 1 (pc' := 60) (ls' := [(0, aR 48 0), (2, aI l2), (3, aI l3), (4, aI (l4 + (nI 1)))]) (st' := []) (cs' := []) (fun _ => rfl) al0 ?_
          refine w_sg k198 1 (pc' := 8) (ls' := [(0, aR 48 0), (2, aI l2), (3, aI l3), (4, aI (l4 + (nI 1)))]) (st' := []) (cs' := []) (fun _ => rfl) al0 ?_
          refine w_ls [(0, aR 48 0), (2, aI l2), (3, aI l3), (4, aI (l4 + (nI 1)))] (lq_c rfl (lq_c rfl (lq_c rfl (lq_c rfl lq_n)))) ?_
          obtain rfl := Option.some.inj h
          exact ih27 _ _ (lpn_l hn26)
        · replace h := if_f c h
          refine w_sg k198 3 (pc' := 38) (ls' := [(0, aR 48 0), (2, aI l2), (3, aI l3), (4, aI l4)]) (st' := [aI l4, aI l2, aR 48 0]) (cs' := []) (fun _ => rfl) al0 ?_
          obtain ⟨v36, Y34, hv35, h⟩ := bd_some h
          refine w_cV1 k198 (sn_194 _ _ _ _ hv35) rfl (st := []) rfl ?_ (fun _ _ q => q.elim)
          refine w_sg k198 3 (pc' := 45) (ls' := [(0, aR 48 0), (2, aI l2), (3, aI l3), (4, aI l4)]) (st' := [aI l4, aI l3, aR 48 0, aI v36]) (cs' := []) (fun _ => rfl) al0 ?_
          obtain ⟨v39, Y37, hv38, h⟩ := bd_some h
          refine w_cV1 k198 (sn_194 _ _ _ _ hv38) rfl (st := [aI v36]) rfl ?_ (fun _ _ q => q.elim)
          refine w_icmp_le k198 rfl (fun c => ?_) (fun c => ?_)
          · replace h := if_t c h
            refine w_sg k198 1 (pc' := 56) (ls' := [(0, aR 48 0), (2, aI l2), (3, aI l3), (4, aI l4)]) (st' := [aI (nI 0)]) (cs' := []) (fun _ => rfl) al0 ?_
            obtain rfl := Option.some.inj h
            obtain rfl := lpn_r hn26
            exact w_zreturn k198 (Or.inl rfl) ⟨rfl, rfl⟩
          · replace h := if_f c h
            refine w_sg k198 2 (pc' := 56) (ls' := [(0, aR 48 0), (2, aI l2), (3, aI l3), (4, aI l4)]) (st' := [aI (nI 1)]) (cs' := []) (fun _ => rfl) al0 ?_
            obtain rfl := Option.some.inj h
            obtain rfl := lpn_r hn26
            exact w_zreturn k198 (Or.inr rfl) ⟨rfl, rfl⟩
  refine w_sg k198 2 (pc' := 2) (ls' := [(0, aR 48 0), (1, aI a1), (2, aI a2), (3, aI a3)]) (st' := [aI (nI 1), aI a1]) (cs' := []) (fun _ => rfl) al0 ?_
  refine w_icmp_ne k198 rfl (fun c => ?_) (fun c => ?_)
  · replace h := if_f c h
    refine w_sg k198 2 (pc' := 76) (ls' := [(0, aR 48 0), (1, aI a1), (2, aI a2), (3, aI a3)]) (st' := [aI (nI 2), aI a1]) (cs' := []) (fun _ => rfl) al0 ?_
    refine w_icmp_ne k198 rfl (fun c => ?_) (fun c => ?_)
    · replace h := if_f c h
      refine w_ls [(0, aR 48 0), (2, aI a2), (3, aI a3)] (lq_c rfl (lq_c rfl (lq_c rfl lq_n))) ?_
      exact J111_0 _ _ _ h
    · replace h := if_t c h
      refine w_sg k198 2 (pc' := 81) (ls' := [(0, aR 48 0), (1, aI a1), (2, aI a2), (3, aI a3)]) (st' := [aI a2, aR 48 0]) (cs' := []) (fun _ => rfl) al0 ?_
      obtain ⟨v15, Y13, hv14, h⟩ := bd_some h
      refine w_cV1 k198 (sn_197 _ _ _ hv14) rfl (st := []) rfl ?_ (fun _ _ q => q.elim)
      refine w_sg k198 2 (pc' := 86) (ls' := [(0, aR 48 0), (1, aI a1), (2, aI a2), (3, aI a3)]) (st' := [aI a3, aR 48 0, aI v15]) (cs' := []) (fun _ => rfl) al0 ?_
      obtain ⟨v18, Y16, hv17, h⟩ := bd_some h
      refine w_cV1 k198 (sn_197 _ _ _ hv17) rfl (st := [aI v15]) rfl ?_ (fun _ _ q => q.elim)
      refine w_icmp_eq k198 rfl (fun c => ?_) (fun c => ?_)
      · replace h := if_t c h
        refine w_ls [(0, aR 48 0), (2, aI a2), (3, aI a3)] (lq_c rfl (lq_c rfl (lq_c rfl lq_n))) ?_
        exact J111_0 _ _ _ h
      · replace h := if_f c h
        refine w_sg k198 2 (pc' := 94) (ls' := [(0, aR 48 0), (1, aI a1), (2, aI a2), (3, aI a3)]) (st' := [aI a2, aR 48 0]) (cs' := []) (fun _ => rfl) al0 ?_
        obtain ⟨v21, Y19, hv20, h⟩ := bd_some h
        refine w_cV1 k198 (sn_197 _ _ _ hv20) rfl (st := []) rfl ?_ (fun _ _ q => q.elim)
        refine w_sg k198 2 (pc' := 99) (ls' := [(0, aR 48 0), (1, aI a1), (2, aI a2), (3, aI a3)]) (st' := [aI a3, aR 48 0, aI v21]) (cs' := []) (fun _ => rfl) al0 ?_
        obtain ⟨v24, Y22, hv23, h⟩ := bd_some h
        refine w_cV1 k198 (sn_197 _ _ _ hv23) rfl (st := [aI v21]) rfl ?_ (fun _ _ q => q.elim)
        refine w_icmp_le k198 rfl (fun c => ?_) (fun c => ?_)
        · replace h := if_t c h
          refine w_sg k198 1 (pc' := 110) (ls' := [(0, aR 48 0), (1, aI a1), (2, aI a2), (3, aI a3)]) (st' := [aI (nI 0)]) (cs' := []) (fun _ => rfl) al0 ?_
          obtain rfl := Option.some.inj h
          exact w_zreturn k198 (Or.inl rfl) ⟨rfl, rfl⟩
        · replace h := if_f c h
          refine w_sg k198 2 (pc' := 110) (ls' := [(0, aR 48 0), (1, aI a1), (2, aI a2), (3, aI a3)]) (st' := [aI (nI 1)]) (cs' := []) (fun _ => rfl) al0 ?_
          obtain rfl := Option.some.inj h
          exact w_zreturn k198 (Or.inr rfl) ⟨rfl, rfl⟩
  · replace h := if_t c h
    refine w_sg k198 2 (pc' := 8) (ls' := [(0, aR 48 0), (1, aI a1), (2, aI a2), (3, aI a3), (4, aI (nI 0))]) (st' := []) (cs' := []) (fun _ => rfl) al0 ?_
    refine w_ls [(0, aR 48 0), (2, aI a2), (3, aI a3), (4, aI (nI 0))] (lq_c rfl (lq_c rfl (lq_c rfl (lq_c rfl lq_n)))) ?_
    exact L8_0 _ _ _ _ _ h
