/-! the law, further on (printed by wip/whole/gen22.py) -/
def fn_334_J1476 (L : Nat) (l5 : Int32) (Y : Sm) : Option ((Int32 × Sm) ⊕ (Int32 × Sm)) :=
  ck (inb (l5 + (nI 1)) L) <| bd (fn_315 (gI Y.1 68 0 (ix (l5 + (nI 1)))) Y) fun v4 Y2 => bd (fn_253 (gI Y2.1 68 0 (ix (l5 + (nI 1)))) Y2) fun v7 Y5 => bd (fn_163 Y5) fun v10 Y8 => (if v10 = v4 then (if v4 = (nI 0) then (if (lg_cmp (gJ Y8.1 66 0 0) ((v7).toInt64)) = (nI 0) then some (.inl ((l5 + (nI 6)), Y8)) else some (.inr ((nI 0), Y8))) else some (.inl ((l5 + (nI 6)), Y8))) else some (.inr ((nI 0), Y8)))
set_option maxRecDepth 20000 in
set_option maxHeartbeats 4000000 in
theorem sn_334_J1476 {L B m : Nat} {l5 : Int32} {Y : Sm} {q : (Int32 × Sm) ⊕ (Int32 × Sm)} {P : Option Av → Sm → Prop} {E : Nat → Sm → Prop} (hi : ∀ i Z, q = .inl (i, Z) → Wl L 16 B m 28 [(0, aR 68 0), (1, aR 0 0), (2, aR 48 0), (3, aR 66 0), (4, aR 67 0), (5, aI i)] [] Z P E) (hr : ∀ o : Int32 × Sm, q = .inr o → P (some (aI o.1)) o.2) (h : fn_334_J1476 L l5 Y = some q) : Wl L 16 B (m + 8) 1476 [(0, aR 68 0), (1, aR 0 0), (2, aR 48 0), (3, aR 66 0), (4, aR 67 0), (5, aI l5)] [] Y P E := by
  unfold fn_334_J1476 at h
  obtain ⟨hc1, h⟩ := ck_some h
  refine l_sg k334 7 (pc' := 1484) (ls' := [(0, aR 68 0), (1, aR 0 0), (2, aR 48 0), (3, aR 66 0), (4, aR 67 0), (5, aI l5)]) (st' := [aR 66 0, aI (gI Y.1 68 0 (ix (l5 + (nI 1)))), aR 0 0]) (cs' := [vp_in (l5 + (nI 1)) L]) (fun _ => rfl) (al1 (vin hc1)) ?_
  obtain ⟨v4, Y2, hv3, h⟩ := bd_some h
  refine l_cS1 (n := m + 7) (b' := 1) k334 (sn_315 _ _ _ hv3) rfl (st := []) rfl ?_
  refine l_sg k334 1 (pc' := 1489) (ls' := [(0, aR 68 0), (1, aR 0 0), (2, aR 48 0), (3, aR 66 0), (4, aR 67 0), (5, aI l5), (6, aI v4)]) (st' := []) (cs' := []) (fun _ => rfl) al0 ?_
  refine l_sg k334 6 (pc' := 1496) (ls' := [(0, aR 68 0), (1, aR 0 0), (2, aR 48 0), (3, aR 66 0), (4, aR 67 0), (5, aI l5), (6, aI v4)]) (st' := [aI (gI Y2.1 68 0 (ix (l5 + (nI 1)))), aR 48 0]) (cs' := [vp_in (l5 + (nI 1)) L]) (fun _ => rfl) (al1 (vin hc1)) ?_
  obtain ⟨v7, Y5, hv6, h⟩ := bd_some h
  refine l_cV1 (n := m + 7) (b' := 0) k334 (sn_253 _ _ _ hv6) rfl (st := []) rfl ?_
  refine l_sg k334 1 (pc' := 1501) (ls' := [(0, aR 68 0), (1, aR 0 0), (2, aR 48 0), (3, aR 66 0), (4, aR 67 0), (5, aI l5), (6, aI v4), (7, aI v7)]) (st' := []) (cs' := []) (fun _ => rfl) al0 ?_
  refine l_sg k334 1 (pc' := 1502) (ls' := [(0, aR 68 0), (1, aR 0 0), (2, aR 48 0), (3, aR 66 0), (4, aR 67 0), (5, aI l5), (6, aI v4), (7, aI v7)]) (st' := [aR 48 0]) (cs' := []) (fun _ => rfl) al0 ?_
  obtain ⟨v10, Y8, hv9, h⟩ := bd_some h
  refine l_cV1 (n := m + 7) (b' := 0) k334 (sn_163  _ _ hv9) rfl (st := []) rfl ?_
  refine l_sg k334 1 (pc' := 1507) (ls' := [(0, aR 68 0), (1, aR 0 0), (2, aR 48 0), (3, aR 66 0), (4, aR 67 0), (5, aI l5), (6, aI v4), (7, aI v7)]) (st' := [aI v4, aI v10]) (cs' := []) (fun _ => rfl) al0 ?_
  refine l_icmp_eq k334 rfl (fun c => ?_) (fun c => ?_)
  · replace h := if_t c h
    refine l_sg k334 1 (pc' := 1514) (ls' := [(0, aR 68 0), (1, aR 0 0), (2, aR 48 0), (3, aR 66 0), (4, aR 67 0), (5, aI l5), (6, aI v4), (7, aI v7)]) (st' := [aI v4]) (cs' := []) (fun _ => rfl) al0 ?_
    refine l_if_ne k334 rfl (fun c => ?_) (fun c => ?_)
    · replace h := if_f c h
      refine l_sg k334 2 (pc' := 2736) (ls' := [(0, aR 68 0), (1, aR 0 0), (2, aR 48 0), (3, aR 66 0), (4, aR 67 0), (5, aI (l5 + (nI 6))), (6, aI v4), (7, aI v7)]) (st' := []) (cs' := []) (fun _ => rfl) al0 ?_
      refine l_sg k334 1 (pc' := 28) (ls' := [(0, aR 68 0), (1, aR 0 0), (2, aR 48 0), (3, aR 66 0), (4, aR 67 0), (5, aI (l5 + (nI 6))), (6, aI v4), (7, aI v7)]) (st' := []) (cs' := []) (fun _ => rfl) al0 ?_
      refine l_ls [(0, aR 68 0), (1, aR 0 0), (2, aR 48 0), (3, aR 66 0), (4, aR 67 0), (5, aI (l5 + (nI 6)))] (lq_c rfl (lq_c rfl (lq_c rfl (lq_c rfl (lq_c rfl (lq_c rfl lq_n)))))) ?_
      obtain rfl := Option.some.inj h
      exact l_mono (hi _ _ rfl)
    · replace h := if_t c h
      refine l_sg k334 6 (pc' := 1524) (ls' := [(0, aR 68 0), (1, aR 0 0), (2, aR 48 0), (3, aR 66 0), (4, aR 67 0), (5, aI l5), (6, aI v4), (7, aI v7)]) (st' := [aI (lg_cmp (gJ Y8.1 66 0 0) ((v7).toInt64))]) (cs' := [vp_in (nI 0) 1]) (fun _ => rfl) (al1 (vin rfl)) ?_
      refine l_if_eq k334 rfl (fun c => ?_) (fun c => ?_)
      · replace h := if_t c h
        refine l_sg k334 2 (pc' := 2736) (ls' := [(0, aR 68 0), (1, aR 0 0), (2, aR 48 0), (3, aR 66 0), (4, aR 67 0), (5, aI (l5 + (nI 6))), (6, aI v4), (7, aI v7)]) (st' := []) (cs' := []) (fun _ => rfl) al0 ?_
        refine l_sg k334 1 (pc' := 28) (ls' := [(0, aR 68 0), (1, aR 0 0), (2, aR 48 0), (3, aR 66 0), (4, aR 67 0), (5, aI (l5 + (nI 6))), (6, aI v4), (7, aI v7)]) (st' := []) (cs' := []) (fun _ => rfl) al0 ?_
        refine l_ls [(0, aR 68 0), (1, aR 0 0), (2, aR 48 0), (3, aR 66 0), (4, aR 67 0), (5, aI (l5 + (nI 6)))] (lq_c rfl (lq_c rfl (lq_c rfl (lq_c rfl (lq_c rfl (lq_c rfl lq_n)))))) ?_
        obtain rfl := Option.some.inj h
        exact l_mono (hi _ _ rfl)
      · replace h := if_f c h
        refine l_sg k334 1 (pc' := 1528) (ls' := [(0, aR 68 0), (1, aR 0 0), (2, aR 48 0), (3, aR 66 0), (4, aR 67 0), (5, aI l5), (6, aI v4), (7, aI v7)]) (st' := [aI (nI 0)]) (cs' := []) (fun _ => rfl) al0 ?_
        obtain rfl := Option.some.inj h
        exact l_zreturn k334 (Or.inl rfl) (hr _ rfl)
  · replace h := if_f c h
    refine l_sg k334 1 (pc' := 1511) (ls' := [(0, aR 68 0), (1, aR 0 0), (2, aR 48 0), (3, aR 66 0), (4, aR 67 0), (5, aI l5), (6, aI v4), (7, aI v7)]) (st' := [aI (nI 0)]) (cs' := []) (fun _ => rfl) al0 ?_
    obtain rfl := Option.some.inj h
    exact l_zreturn k334 (Or.inl rfl) (hr _ rfl)
def fn_334_J1532 (L : Nat) (l5 : Int32) (Y : Sm) : Option ((Int32 × Sm) ⊕ (Int32 × Sm)) :=
  ck (inb (l5 + (nI 1)) L) <| bd (fn_316 (gI Y.1 68 0 (ix (l5 + (nI 1)))) Y) fun v4 Y2 => bd (fn_254 (gI Y2.1 68 0 (ix (l5 + (nI 1)))) Y2) fun v7 Y5 => bd (fn_163 Y5) fun v10 Y8 => (if v10 = v4 then (if v4 = (nI 0) then (if (Op.cmpValue (FP.dcmp (gD Y8.1 67 0 0) v7) .l) = (nI 0) then some (.inl ((l5 + (nI 6)), Y8)) else (if (Op.cmpValue (FP.dcmp (gD Y8.1 67 0 0) (gD Y8.1 67 0 0)) .l) = (nI 0) then some (.inr ((nI 0), Y8)) else (if (Op.cmpValue (FP.dcmp v7 v7) .l) = (nI 0) then some (.inr ((nI 0), Y8)) else some (.inl ((l5 + (nI 6)), Y8))))) else some (.inl ((l5 + (nI 6)), Y8))) else some (.inr ((nI 0), Y8)))
set_option maxRecDepth 20000 in
set_option maxHeartbeats 4000000 in
theorem sn_334_J1532 {L B m : Nat} {l5 : Int32} {Y : Sm} {q : (Int32 × Sm) ⊕ (Int32 × Sm)} {P : Option Av → Sm → Prop} {E : Nat → Sm → Prop} (hi : ∀ i Z, q = .inl (i, Z) → Wl L 16 B m 28 [(0, aR 68 0), (1, aR 0 0), (2, aR 48 0), (3, aR 66 0), (4, aR 67 0), (5, aI i)] [] Z P E) (hr : ∀ o : Int32 × Sm, q = .inr o → P (some (aI o.1)) o.2) (h : fn_334_J1532 L l5 Y = some q) : Wl L 16 B (m + 8) 1532 [(0, aR 68 0), (1, aR 0 0), (2, aR 48 0), (3, aR 66 0), (4, aR 67 0), (5, aI l5)] [] Y P E := by
  unfold fn_334_J1532 at h
  obtain ⟨hc1, h⟩ := ck_some h
  refine l_sg k334 7 (pc' := 1541) (ls' := [(0, aR 68 0), (1, aR 0 0), (2, aR 48 0), (3, aR 66 0), (4, aR 67 0), (5, aI l5)]) (st' := [aR 67 0, aI (gI Y.1 68 0 (ix (l5 + (nI 1)))), aR 0 0]) (cs' := [vp_in (l5 + (nI 1)) L]) (fun _ => rfl) (al1 (vin hc1)) ?_
  obtain ⟨v4, Y2, hv3, h⟩ := bd_some h
  refine l_cS1 (n := m + 7) (b' := 1) k334 (sn_316 _ _ _ hv3) rfl (st := []) rfl ?_
  refine l_sg k334 1 (pc' := 1546) (ls' := [(0, aR 68 0), (1, aR 0 0), (2, aR 48 0), (3, aR 66 0), (4, aR 67 0), (5, aI l5), (6, aI v4)]) (st' := []) (cs' := []) (fun _ => rfl) al0 ?_
  refine l_sg k334 6 (pc' := 1553) (ls' := [(0, aR 68 0), (1, aR 0 0), (2, aR 48 0), (3, aR 66 0), (4, aR 67 0), (5, aI l5), (6, aI v4)]) (st' := [aI (gI Y2.1 68 0 (ix (l5 + (nI 1)))), aR 48 0]) (cs' := [vp_in (l5 + (nI 1)) L]) (fun _ => rfl) (al1 (vin hc1)) ?_
  obtain ⟨v7, Y5, hv6, h⟩ := bd_some h
  refine l_cV1 (n := m + 7) (b' := 0) k334 (sn_254 _ _ _ hv6) rfl (st := []) rfl ?_
  refine l_sg k334 1 (pc' := 1558) (ls' := [(0, aR 68 0), (1, aR 0 0), (2, aR 48 0), (3, aR 66 0), (4, aR 67 0), (5, aI l5), (6, aI v4), (7, aD v7)]) (st' := []) (cs' := []) (fun _ => rfl) al0 ?_
  refine l_sg k334 1 (pc' := 1559) (ls' := [(0, aR 68 0), (1, aR 0 0), (2, aR 48 0), (3, aR 66 0), (4, aR 67 0), (5, aI l5), (6, aI v4), (7, aD v7)]) (st' := [aR 48 0]) (cs' := []) (fun _ => rfl) al0 ?_
  obtain ⟨v10, Y8, hv9, h⟩ := bd_some h
  refine l_cV1 (n := m + 7) (b' := 0) k334 (sn_163  _ _ hv9) rfl (st := []) rfl ?_
  refine l_sg k334 1 (pc' := 1564) (ls' := [(0, aR 68 0), (1, aR 0 0), (2, aR 48 0), (3, aR 66 0), (4, aR 67 0), (5, aI l5), (6, aI v4), (7, aD v7)]) (st' := [aI v4, aI v10]) (cs' := []) (fun _ => rfl) al0 ?_
  refine l_icmp_eq k334 rfl (fun c => ?_) (fun c => ?_)
  · replace h := if_t c h
    refine l_sg k334 1 (pc' := 1571) (ls' := [(0, aR 68 0), (1, aR 0 0), (2, aR 48 0), (3, aR 66 0), (4, aR 67 0), (5, aI l5), (6, aI v4), (7, aD v7)]) (st' := [aI v4]) (cs' := []) (fun _ => rfl) al0 ?_
    refine l_if_ne k334 rfl (fun c => ?_) (fun c => ?_)
    · replace h := if_f c h
      refine l_sg k334 2 (pc' := 2736) (ls' := [(0, aR 68 0), (1, aR 0 0), (2, aR 48 0), (3, aR 66 0), (4, aR 67 0), (5, aI (l5 + (nI 6))), (6, aI v4), (7, aD v7)]) (st' := []) (cs' := []) (fun _ => rfl) al0 ?_
      refine l_sg k334 1 (pc' := 28) (ls' := [(0, aR 68 0), (1, aR 0 0), (2, aR 48 0), (3, aR 66 0), (4, aR 67 0), (5, aI (l5 + (nI 6))), (6, aI v4), (7, aD v7)]) (st' := []) (cs' := []) (fun _ => rfl) al0 ?_
      refine l_ls [(0, aR 68 0), (1, aR 0 0), (2, aR 48 0), (3, aR 66 0), (4, aR 67 0), (5, aI (l5 + (nI 6)))] (lq_c rfl (lq_c rfl (lq_c rfl (lq_c rfl (lq_c rfl (lq_c rfl lq_n)))))) ?_
      obtain rfl := Option.some.inj h
      exact l_mono (hi _ _ rfl)
    · replace h := if_t c h
      refine l_sg k334 5 (pc' := 1581) (ls' := [(0, aR 68 0), (1, aR 0 0), (2, aR 48 0), (3, aR 66 0), (4, aR 67 0), (5, aI l5), (6, aI v4), (7, aD v7)]) (st' := [aI (Op.cmpValue (FP.dcmp (gD Y8.1 67 0 0) v7) .l)]) (cs' := [vp_in (nI 0) 1]) (fun _ => rfl) (al1 (vin rfl)) ?_
      refine l_if_eq k334 rfl (fun c => ?_) (fun c => ?_)
      · replace h := if_t c h
        refine l_sg k334 2 (pc' := 2736) (ls' := [(0, aR 68 0), (1, aR 0 0), (2, aR 48 0), (3, aR 66 0), (4, aR 67 0), (5, aI (l5 + (nI 6))), (6, aI v4), (7, aD v7)]) (st' := []) (cs' := []) (fun _ => rfl) al0 ?_
        refine l_sg k334 1 (pc' := 28) (ls' := [(0, aR 68 0), (1, aR 0 0), (2, aR 48 0), (3, aR 66 0), (4, aR 67 0), (5, aI (l5 + (nI 6))), (6, aI v4), (7, aD v7)]) (st' := []) (cs' := []) (fun _ => rfl) al0 ?_
        refine l_ls [(0, aR 68 0), (1, aR 0 0), (2, aR 48 0), (3, aR 66 0), (4, aR 67 0), (5, aI (l5 + (nI 6)))] (lq_c rfl (lq_c rfl (lq_c rfl (lq_c rfl (lq_c rfl (lq_c rfl lq_n)))))) ?_
        obtain rfl := Option.some.inj h
        exact l_mono (hi _ _ rfl)
      · replace h := if_f c h
        refine l_sg k334 7 (pc' := 1593) (ls' := [(0, aR 68 0), (1, aR 0 0), (2, aR 48 0), (3, aR 66 0), (4, aR 67 0), (5, aI l5), (6, aI v4), (7, aD v7)]) (st' := [aI (Op.cmpValue (FP.dcmp (gD Y8.1 67 0 0) (gD Y8.1 67 0 0)) .l)]) (cs' := [vp_in (nI 0) 1, vp_in (nI 0) 1]) (fun _ => rfl) (al2 (vin rfl) (al1 (vin rfl))) ?_
        refine l_if_eq k334 rfl (fun c => ?_) (fun c => ?_)
        · replace h := if_t c h
          refine l_sg k334 1 (pc' := 1605) (ls' := [(0, aR 68 0), (1, aR 0 0), (2, aR 48 0), (3, aR 66 0), (4, aR 67 0), (5, aI l5), (6, aI v4), (7, aD v7)]) (st' := [aI (nI 0)]) (cs' := []) (fun _ => rfl) al0 ?_
          obtain rfl := Option.some.inj h
          exact l_zreturn k334 (Or.inl rfl) (hr _ rfl)
        · replace h := if_f c h
          refine l_sg k334 3 (pc' := 1601) (ls' := [(0, aR 68 0), (1, aR 0 0), (2, aR 48 0), (3, aR 66 0), (4, aR 67 0), (5, aI l5), (6, aI v4), (7, aD v7)]) (st' := [aI (Op.cmpValue (FP.dcmp v7 v7) .l)]) (cs' := []) (fun _ => rfl) al0 ?_
          refine l_if_ne k334 rfl (fun c => ?_) (fun c => ?_)
          · replace h := if_f c h
            refine l_sg k334 2 (pc' := 2736) (ls' := [(0, aR 68 0), (1, aR 0 0), (2, aR 48 0), (3, aR 66 0), (4, aR 67 0), (5, aI (l5 + (nI 6))), (6, aI v4), (7, aD v7)]) (st' := []) (cs' := []) (fun _ => rfl) al0 ?_
            refine l_sg k334 1 (pc' := 28) (ls' := [(0, aR 68 0), (1, aR 0 0), (2, aR 48 0), (3, aR 66 0), (4, aR 67 0), (5, aI (l5 + (nI 6))), (6, aI v4), (7, aD v7)]) (st' := []) (cs' := []) (fun _ => rfl) al0 ?_
            refine l_ls [(0, aR 68 0), (1, aR 0 0), (2, aR 48 0), (3, aR 66 0), (4, aR 67 0), (5, aI (l5 + (nI 6)))] (lq_c rfl (lq_c rfl (lq_c rfl (lq_c rfl (lq_c rfl (lq_c rfl lq_n)))))) ?_
            obtain rfl := Option.some.inj h
            exact l_mono (hi _ _ rfl)
          · replace h := if_t c h
            refine l_sg k334 1 (pc' := 1605) (ls' := [(0, aR 68 0), (1, aR 0 0), (2, aR 48 0), (3, aR 66 0), (4, aR 67 0), (5, aI l5), (6, aI v4), (7, aD v7)]) (st' := [aI (nI 0)]) (cs' := []) (fun _ => rfl) al0 ?_
            obtain rfl := Option.some.inj h
            exact l_zreturn k334 (Or.inl rfl) (hr _ rfl)
  · replace h := if_f c h
    refine l_sg k334 1 (pc' := 1568) (ls' := [(0, aR 68 0), (1, aR 0 0), (2, aR 48 0), (3, aR 66 0), (4, aR 67 0), (5, aI l5), (6, aI v4), (7, aD v7)]) (st' := [aI (nI 0)]) (cs' := []) (fun _ => rfl) al0 ?_
    obtain rfl := Option.some.inj h
    exact l_zreturn k334 (Or.inl rfl) (hr _ rfl)
def fn_334_J1609 (L : Nat) (l5 : Int32) (Y : Sm) : Option ((Int32 × Sm) ⊕ (Int32 × Sm)) :=
  ck (inb (l5 + (nI 1)) L) <| bd (fn_317 (gI Y.1 68 0 (ix (l5 + (nI 1)))) Y) fun v4 Y2 => bd (fn_255 (gI Y2.1 68 0 (ix (l5 + (nI 1)))) Y2) fun v7 Y5 => bd (fn_163 Y5) fun v10 Y8 => (if v10 = v4 then (if v4 = (nI 0) then ck (nn64 (FP.f2d v7)) <| (if (Op.cmpValue (FP.dcmp (gD Y8.1 67 0 0) (FP.f2d v7)) .l) = (nI 0) then some (.inl ((l5 + (nI 6)), Y8)) else (if (Op.cmpValue (FP.dcmp (gD Y8.1 67 0 0) (gD Y8.1 67 0 0)) .l) = (nI 0) then some (.inr ((nI 0), Y8)) else (if (Op.cmpValue (FP.fcmp v7 v7) .l) = (nI 0) then some (.inr ((nI 0), Y8)) else some (.inl ((l5 + (nI 6)), Y8))))) else some (.inl ((l5 + (nI 6)), Y8))) else some (.inr ((nI 0), Y8)))
set_option maxRecDepth 20000 in
set_option maxHeartbeats 4000000 in
theorem sn_334_J1609 {L B m : Nat} {l5 : Int32} {Y : Sm} {q : (Int32 × Sm) ⊕ (Int32 × Sm)} {P : Option Av → Sm → Prop} {E : Nat → Sm → Prop} (hi : ∀ i Z, q = .inl (i, Z) → Wl L 16 B m 28 [(0, aR 68 0), (1, aR 0 0), (2, aR 48 0), (3, aR 66 0), (4, aR 67 0), (5, aI i)] [] Z P E) (hr : ∀ o : Int32 × Sm, q = .inr o → P (some (aI o.1)) o.2) (h : fn_334_J1609 L l5 Y = some q) : Wl L 16 B (m + 8) 1609 [(0, aR 68 0), (1, aR 0 0), (2, aR 48 0), (3, aR 66 0), (4, aR 67 0), (5, aI l5)] [] Y P E := by
  unfold fn_334_J1609 at h
  obtain ⟨hc1, h⟩ := ck_some h
  refine l_sg k334 7 (pc' := 1618) (ls' := [(0, aR 68 0), (1, aR 0 0), (2, aR 48 0), (3, aR 66 0), (4, aR 67 0), (5, aI l5)]) (st' := [aR 67 0, aI (gI Y.1 68 0 (ix (l5 + (nI 1)))), aR 0 0]) (cs' := [vp_in (l5 + (nI 1)) L]) (fun _ => rfl) (al1 (vin hc1)) ?_
  obtain ⟨v4, Y2, hv3, h⟩ := bd_some h
  refine l_cS1 (n := m + 7) (b' := 1) k334 (sn_317 _ _ _ hv3) rfl (st := []) rfl ?_
  refine l_sg k334 1 (pc' := 1623) (ls' := [(0, aR 68 0), (1, aR 0 0), (2, aR 48 0), (3, aR 66 0), (4, aR 67 0), (5, aI l5), (6, aI v4)]) (st' := []) (cs' := []) (fun _ => rfl) al0 ?_
  refine l_sg k334 6 (pc' := 1630) (ls' := [(0, aR 68 0), (1, aR 0 0), (2, aR 48 0), (3, aR 66 0), (4, aR 67 0), (5, aI l5), (6, aI v4)]) (st' := [aI (gI Y2.1 68 0 (ix (l5 + (nI 1)))), aR 48 0]) (cs' := [vp_in (l5 + (nI 1)) L]) (fun _ => rfl) (al1 (vin hc1)) ?_
  obtain ⟨v7, Y5, hv6, h⟩ := bd_some h
  refine l_cV1 (n := m + 7) (b' := 0) k334 (sn_255 _ _ _ hv6) rfl (st := []) rfl ?_
  refine l_sg k334 1 (pc' := 1635) (ls' := [(0, aR 68 0), (1, aR 0 0), (2, aR 48 0), (3, aR 66 0), (4, aR 67 0), (5, aI l5), (6, aI v4), (7, aF v7)]) (st' := []) (cs' := []) (fun _ => rfl) al0 ?_
  refine l_sg k334 1 (pc' := 1636) (ls' := [(0, aR 68 0), (1, aR 0 0), (2, aR 48 0), (3, aR 66 0), (4, aR 67 0), (5, aI l5), (6, aI v4), (7, aF v7)]) (st' := [aR 48 0]) (cs' := []) (fun _ => rfl) al0 ?_
  obtain ⟨v10, Y8, hv9, h⟩ := bd_some h
  refine l_cV1 (n := m + 7) (b' := 0) k334 (sn_163  _ _ hv9) rfl (st := []) rfl ?_
  refine l_sg k334 1 (pc' := 1641) (ls' := [(0, aR 68 0), (1, aR 0 0), (2, aR 48 0), (3, aR 66 0), (4, aR 67 0), (5, aI l5), (6, aI v4), (7, aF v7)]) (st' := [aI v4, aI v10]) (cs' := []) (fun _ => rfl) al0 ?_
  refine l_icmp_eq k334 rfl (fun c => ?_) (fun c => ?_)
  · replace h := if_t c h
    refine l_sg k334 1 (pc' := 1648) (ls' := [(0, aR 68 0), (1, aR 0 0), (2, aR 48 0), (3, aR 66 0), (4, aR 67 0), (5, aI l5), (6, aI v4), (7, aF v7)]) (st' := [aI v4]) (cs' := []) (fun _ => rfl) al0 ?_
    refine l_if_ne k334 rfl (fun c => ?_) (fun c => ?_)
    · replace h := if_f c h
      refine l_sg k334 2 (pc' := 2736) (ls' := [(0, aR 68 0), (1, aR 0 0), (2, aR 48 0), (3, aR 66 0), (4, aR 67 0), (5, aI (l5 + (nI 6))), (6, aI v4), (7, aF v7)]) (st' := []) (cs' := []) (fun _ => rfl) al0 ?_
      refine l_sg k334 1 (pc' := 28) (ls' := [(0, aR 68 0), (1, aR 0 0), (2, aR 48 0), (3, aR 66 0), (4, aR 67 0), (5, aI (l5 + (nI 6))), (6, aI v4), (7, aF v7)]) (st' := []) (cs' := []) (fun _ => rfl) al0 ?_
      refine l_ls [(0, aR 68 0), (1, aR 0 0), (2, aR 48 0), (3, aR 66 0), (4, aR 67 0), (5, aI (l5 + (nI 6)))] (lq_c rfl (lq_c rfl (lq_c rfl (lq_c rfl (lq_c rfl (lq_c rfl lq_n)))))) ?_
      obtain rfl := Option.some.inj h
      exact l_mono (hi _ _ rfl)
    · replace h := if_t c h
      obtain ⟨hc11, h⟩ := ck_some h
      refine l_sg k334 6 (pc' := 1659) (ls' := [(0, aR 68 0), (1, aR 0 0), (2, aR 48 0), (3, aR 66 0), (4, aR 67 0), (5, aI l5), (6, aI v4), (7, aF v7)]) (st' := [aI (Op.cmpValue (FP.dcmp (gD Y8.1 67 0 0) (FP.f2d v7)) .l)]) (cs' := [vp_in (nI 0) 1, vf_n64 (FP.f2d v7)]) (fun _ => rfl) (al2 (vin rfl) (al1 (nn64_of hc11))) ?_
      refine l_if_eq k334 rfl (fun c => ?_) (fun c => ?_)
      · replace h := if_t c h
        refine l_sg k334 2 (pc' := 2736) (ls' := [(0, aR 68 0), (1, aR 0 0), (2, aR 48 0), (3, aR 66 0), (4, aR 67 0), (5, aI (l5 + (nI 6))), (6, aI v4), (7, aF v7)]) (st' := []) (cs' := []) (fun _ => rfl) al0 ?_
        refine l_sg k334 1 (pc' := 28) (ls' := [(0, aR 68 0), (1, aR 0 0), (2, aR 48 0), (3, aR 66 0), (4, aR 67 0), (5, aI (l5 + (nI 6))), (6, aI v4), (7, aF v7)]) (st' := []) (cs' := []) (fun _ => rfl) al0 ?_
        refine l_ls [(0, aR 68 0), (1, aR 0 0), (2, aR 48 0), (3, aR 66 0), (4, aR 67 0), (5, aI (l5 + (nI 6)))] (lq_c rfl (lq_c rfl (lq_c rfl (lq_c rfl (lq_c rfl (lq_c rfl lq_n)))))) ?_
        obtain rfl := Option.some.inj h
        exact l_mono (hi _ _ rfl)
      · replace h := if_f c h
        refine l_sg k334 7 (pc' := 1671) (ls' := [(0, aR 68 0), (1, aR 0 0), (2, aR 48 0), (3, aR 66 0), (4, aR 67 0), (5, aI l5), (6, aI v4), (7, aF v7)]) (st' := [aI (Op.cmpValue (FP.dcmp (gD Y8.1 67 0 0) (gD Y8.1 67 0 0)) .l)]) (cs' := [vp_in (nI 0) 1, vp_in (nI 0) 1]) (fun _ => rfl) (al2 (vin rfl) (al1 (vin rfl))) ?_
        refine l_if_eq k334 rfl (fun c => ?_) (fun c => ?_)
        · replace h := if_t c h
          refine l_sg k334 1 (pc' := 1683) (ls' := [(0, aR 68 0), (1, aR 0 0), (2, aR 48 0), (3, aR 66 0), (4, aR 67 0), (5, aI l5), (6, aI v4), (7, aF v7)]) (st' := [aI (nI 0)]) (cs' := []) (fun _ => rfl) al0 ?_
          obtain rfl := Option.some.inj h
          exact l_zreturn k334 (Or.inl rfl) (hr _ rfl)
        · replace h := if_f c h
          refine l_sg k334 3 (pc' := 1679) (ls' := [(0, aR 68 0), (1, aR 0 0), (2, aR 48 0), (3, aR 66 0), (4, aR 67 0), (5, aI l5), (6, aI v4), (7, aF v7)]) (st' := [aI (Op.cmpValue (FP.fcmp v7 v7) .l)]) (cs' := []) (fun _ => rfl) al0 ?_
          refine l_if_ne k334 rfl (fun c => ?_) (fun c => ?_)
          · replace h := if_f c h
            refine l_sg k334 2 (pc' := 2736) (ls' := [(0, aR 68 0), (1, aR 0 0), (2, aR 48 0), (3, aR 66 0), (4, aR 67 0), (5, aI (l5 + (nI 6))), (6, aI v4), (7, aF v7)]) (st' := []) (cs' := []) (fun _ => rfl) al0 ?_
            refine l_sg k334 1 (pc' := 28) (ls' := [(0, aR 68 0), (1, aR 0 0), (2, aR 48 0), (3, aR 66 0), (4, aR 67 0), (5, aI (l5 + (nI 6))), (6, aI v4), (7, aF v7)]) (st' := []) (cs' := []) (fun _ => rfl) al0 ?_
            refine l_ls [(0, aR 68 0), (1, aR 0 0), (2, aR 48 0), (3, aR 66 0), (4, aR 67 0), (5, aI (l5 + (nI 6)))] (lq_c rfl (lq_c rfl (lq_c rfl (lq_c rfl (lq_c rfl (lq_c rfl lq_n)))))) ?_
            obtain rfl := Option.some.inj h
            exact l_mono (hi _ _ rfl)
          · replace h := if_t c h
            refine l_sg k334 1 (pc' := 1683) (ls' := [(0, aR 68 0), (1, aR 0 0), (2, aR 48 0), (3, aR 66 0), (4, aR 67 0), (5, aI l5), (6, aI v4), (7, aF v7)]) (st' := [aI (nI 0)]) (cs' := []) (fun _ => rfl) al0 ?_
            obtain rfl := Option.some.inj h
            exact l_zreturn k334 (Or.inl rfl) (hr _ rfl)
  · replace h := if_f c h
    refine l_sg k334 1 (pc' := 1645) (ls' := [(0, aR 68 0), (1, aR 0 0), (2, aR 48 0), (3, aR 66 0), (4, aR 67 0), (5, aI l5), (6, aI v4), (7, aF v7)]) (st' := [aI (nI 0)]) (cs' := []) (fun _ => rfl) al0 ?_
    obtain rfl := Option.some.inj h
    exact l_zreturn k334 (Or.inl rfl) (hr _ rfl)
def fn_334_J1687 (L : Nat) (l5 : Int32) (Y : Sm) : Option ((Int32 × Sm) ⊕ (Int32 × Sm)) :=
  bd (fn_132 Y) fun v3 Y1 => bd (fn_256 Y1) fun v6 Y4 => (if v3 = v6 then some (.inl ((l5 + (nI 6)), Y4)) else some (.inr ((nI 0), Y4)))
set_option maxRecDepth 20000 in
set_option maxHeartbeats 4000000 in
theorem sn_334_J1687 {L B m : Nat} {l5 : Int32} {Y : Sm} {q : (Int32 × Sm) ⊕ (Int32 × Sm)} {P : Option Av → Sm → Prop} {E : Nat → Sm → Prop} (hi : ∀ i Z, q = .inl (i, Z) → Wl L 16 B m 28 [(0, aR 68 0), (1, aR 0 0), (2, aR 48 0), (3, aR 66 0), (4, aR 67 0), (5, aI i)] [] Z P E) (hr : ∀ o : Int32 × Sm, q = .inr o → P (some (aI o.1)) o.2) (h : fn_334_J1687 L l5 Y = some q) : Wl L 16 B (m + 8) 1687 [(0, aR 68 0), (1, aR 0 0), (2, aR 48 0), (3, aR 66 0), (4, aR 67 0), (5, aI l5)] [] Y P E := by
  unfold fn_334_J1687 at h
  refine l_sg k334 1 (pc' := 1688) (ls' := [(0, aR 68 0), (1, aR 0 0), (2, aR 48 0), (3, aR 66 0), (4, aR 67 0), (5, aI l5)]) (st' := [aR 0 0]) (cs' := []) (fun _ => rfl) al0 ?_
  obtain ⟨v3, Y1, hv2, h⟩ := bd_some h
  refine l_cV1 (n := m + 8) (b' := 0) k334 (sn_132  _ _ hv2) rfl (st := []) rfl ?_
  refine l_sg k334 1 (pc' := 1692) (ls' := [(0, aR 68 0), (1, aR 0 0), (2, aR 48 0), (3, aR 66 0), (4, aR 67 0), (5, aI l5)]) (st' := [aR 48 0, aI v3]) (cs' := []) (fun _ => rfl) al0 ?_
  obtain ⟨v6, Y4, hv5, h⟩ := bd_some h
  refine l_cV1 (n := m + 8) (b' := 0) k334 (sn_256  _ _ hv5) rfl (st := [aI v3]) rfl ?_
  refine l_icmp_eq k334 rfl (fun c => ?_) (fun c => ?_)
  · replace h := if_t c h
    refine l_sg k334 1 (pc' := 2736) (ls' := [(0, aR 68 0), (1, aR 0 0), (2, aR 48 0), (3, aR 66 0), (4, aR 67 0), (5, aI (l5 + (nI 6)))]) (st' := []) (cs' := []) (fun _ => rfl) al0 ?_
    refine l_sg k334 1 (pc' := 28) (ls' := [(0, aR 68 0), (1, aR 0 0), (2, aR 48 0), (3, aR 66 0), (4, aR 67 0), (5, aI (l5 + (nI 6)))]) (st' := []) (cs' := []) (fun _ => rfl) al0 ?_
    refine l_ls [(0, aR 68 0), (1, aR 0 0), (2, aR 48 0), (3, aR 66 0), (4, aR 67 0), (5, aI (l5 + (nI 6)))] (lq_c rfl (lq_c rfl (lq_c rfl (lq_c rfl (lq_c rfl (lq_c rfl lq_n)))))) ?_
    obtain rfl := Option.some.inj h
    exact l_mono (hi _ _ rfl)
  · replace h := if_f c h
    refine l_sg k334 1 (pc' := 1699) (ls' := [(0, aR 68 0), (1, aR 0 0), (2, aR 48 0), (3, aR 66 0), (4, aR 67 0), (5, aI l5)]) (st' := [aI (nI 0)]) (cs' := []) (fun _ => rfl) al0 ?_
    obtain rfl := Option.some.inj h
    exact l_zreturn k334 (Or.inl rfl) (hr _ rfl)
def fn_334_J1700 (L : Nat) (l5 : Int32) (Y : Sm) : Option ((Int32 × Sm) ⊕ (Int32 × Sm)) :=
  bd (fn_133 Y) fun v3 Y1 => bd (fn_258 Y1) fun v6 Y4 => (if v3 = v6 then some (.inl ((l5 + (nI 6)), Y4)) else some (.inr ((nI 0), Y4)))
set_option maxRecDepth 20000 in
set_option maxHeartbeats 4000000 in
theorem sn_334_J1700 {L B m : Nat} {l5 : Int32} {Y : Sm} {q : (Int32 × Sm) ⊕ (Int32 × Sm)} {P : Option Av → Sm → Prop} {E : Nat → Sm → Prop} (hi : ∀ i Z, q = .inl (i, Z) → Wl L 16 B m 28 [(0, aR 68 0), (1, aR 0 0), (2, aR 48 0), (3, aR 66 0), (4, aR 67 0), (5, aI i)] [] Z P E) (hr : ∀ o : Int32 × Sm, q = .inr o → P (some (aI o.1)) o.2) (h : fn_334_J1700 L l5 Y = some q) : Wl L 16 B (m + 8) 1700 [(0, aR 68 0), (1, aR 0 0), (2, aR 48 0), (3, aR 66 0), (4, aR 67 0), (5, aI l5)] [] Y P E := by
  unfold fn_334_J1700 at h
  refine l_sg k334 1 (pc' := 1701) (ls' := [(0, aR 68 0), (1, aR 0 0), (2, aR 48 0), (3, aR 66 0), (4, aR 67 0), (5, aI l5)]) (st' := [aR 0 0]) (cs' := []) (fun _ => rfl) al0 ?_
  obtain ⟨v3, Y1, hv2, h⟩ := bd_some h
  refine l_cV1 (n := m + 8) (b' := 0) k334 (sn_133  _ _ hv2) rfl (st := []) rfl ?_
  refine l_sg k334 1 (pc' := 1705) (ls' := [(0, aR 68 0), (1, aR 0 0), (2, aR 48 0), (3, aR 66 0), (4, aR 67 0), (5, aI l5)]) (st' := [aR 48 0, aI v3]) (cs' := []) (fun _ => rfl) al0 ?_
  obtain ⟨v6, Y4, hv5, h⟩ := bd_some h
  refine l_cV1 (n := m + 8) (b' := 0) k334 (sn_258  _ _ hv5) rfl (st := [aI v3]) rfl ?_
  refine l_icmp_eq k334 rfl (fun c => ?_) (fun c => ?_)
  · replace h := if_t c h
    refine l_sg k334 1 (pc' := 2736) (ls' := [(0, aR 68 0), (1, aR 0 0), (2, aR 48 0), (3, aR 66 0), (4, aR 67 0), (5, aI (l5 + (nI 6)))]) (st' := []) (cs' := []) (fun _ => rfl) al0 ?_
    refine l_sg k334 1 (pc' := 28) (ls' := [(0, aR 68 0), (1, aR 0 0), (2, aR 48 0), (3, aR 66 0), (4, aR 67 0), (5, aI (l5 + (nI 6)))]) (st' := []) (cs' := []) (fun _ => rfl) al0 ?_
    refine l_ls [(0, aR 68 0), (1, aR 0 0), (2, aR 48 0), (3, aR 66 0), (4, aR 67 0), (5, aI (l5 + (nI 6)))] (lq_c rfl (lq_c rfl (lq_c rfl (lq_c rfl (lq_c rfl (lq_c rfl lq_n)))))) ?_
    obtain rfl := Option.some.inj h
    exact l_mono (hi _ _ rfl)
  · replace h := if_f c h
    refine l_sg k334 1 (pc' := 1712) (ls' := [(0, aR 68 0), (1, aR 0 0), (2, aR 48 0), (3, aR 66 0), (4, aR 67 0), (5, aI l5)]) (st' := [aI (nI 0)]) (cs' := []) (fun _ => rfl) al0 ?_
    obtain rfl := Option.some.inj h
    exact l_zreturn k334 (Or.inl rfl) (hr _ rfl)
def fn_334_J1713 (L : Nat) (l5 : Int32) (Y : Sm) : Option ((Int32 × Sm) ⊕ (Int32 × Sm)) :=
  ck (inb (l5 + (nI 1)) L) <| bd (fn_318 (gI Y.1 68 0 (ix (l5 + (nI 1)))) Y) fun v4 Y2 => bd (fn_211 (gI Y2.1 68 0 (ix (l5 + (nI 1)))) Y2) fun v7 Y5 => bd (fn_163 Y5) fun v10 Y8 => (if v10 = v4 then (if v4 = (nI 0) then (if (lg_cmp (gJ Y8.1 66 0 0) ((v7).toInt64)) = (nI 0) then some (.inl ((l5 + (nI 6)), Y8)) else some (.inr ((nI 0), Y8))) else some (.inl ((l5 + (nI 6)), Y8))) else some (.inr ((nI 0), Y8)))
set_option maxRecDepth 20000 in
set_option maxHeartbeats 4000000 in
theorem sn_334_J1713 {L B m : Nat} {l5 : Int32} {Y : Sm} {q : (Int32 × Sm) ⊕ (Int32 × Sm)} {P : Option Av → Sm → Prop} {E : Nat → Sm → Prop} (hi : ∀ i Z, q = .inl (i, Z) → Wl L 16 B m 28 [(0, aR 68 0), (1, aR 0 0), (2, aR 48 0), (3, aR 66 0), (4, aR 67 0), (5, aI i)] [] Z P E) (hr : ∀ o : Int32 × Sm, q = .inr o → P (some (aI o.1)) o.2) (h : fn_334_J1713 L l5 Y = some q) : Wl L 16 B (m + 8) 1713 [(0, aR 68 0), (1, aR 0 0), (2, aR 48 0), (3, aR 66 0), (4, aR 67 0), (5, aI l5)] [] Y P E := by
  unfold fn_334_J1713 at h
  obtain ⟨hc1, h⟩ := ck_some h
  refine l_sg k334 7 (pc' := 1721) (ls' := [(0, aR 68 0), (1, aR 0 0), (2, aR 48 0), (3, aR 66 0), (4, aR 67 0), (5, aI l5)]) (st' := [aR 66 0, aI (gI Y.1 68 0 (ix (l5 + (nI 1)))), aR 0 0]) (cs' := [vp_in (l5 + (nI 1)) L]) (fun _ => rfl) (al1 (vin hc1)) ?_
  obtain ⟨v4, Y2, hv3, h⟩ := bd_some h
  refine l_cS1 (n := m + 7) (b' := 1) k334 (sn_318 _ _ _ hv3) rfl (st := []) rfl ?_
  refine l_sg k334 1 (pc' := 1726) (ls' := [(0, aR 68 0), (1, aR 0 0), (2, aR 48 0), (3, aR 66 0), (4, aR 67 0), (5, aI l5), (6, aI v4)]) (st' := []) (cs' := []) (fun _ => rfl) al0 ?_
  refine l_sg k334 6 (pc' := 1733) (ls' := [(0, aR 68 0), (1, aR 0 0), (2, aR 48 0), (3, aR 66 0), (4, aR 67 0), (5, aI l5), (6, aI v4)]) (st' := [aI (gI Y2.1 68 0 (ix (l5 + (nI 1)))), aR 48 0]) (cs' := [vp_in (l5 + (nI 1)) L]) (fun _ => rfl) (al1 (vin hc1)) ?_
  obtain ⟨v7, Y5, hv6, h⟩ := bd_some h
  refine l_cV1 (n := m + 7) (b' := 0) k334 (sn_211 _ _ _ hv6) rfl (st := []) rfl ?_
  refine l_sg k334 1 (pc' := 1738) (ls' := [(0, aR 68 0), (1, aR 0 0), (2, aR 48 0), (3, aR 66 0), (4, aR 67 0), (5, aI l5), (6, aI v4), (7, aI v7)]) (st' := []) (cs' := []) (fun _ => rfl) al0 ?_
  refine l_sg k334 1 (pc' := 1739) (ls' := [(0, aR 68 0), (1, aR 0 0), (2, aR 48 0), (3, aR 66 0), (4, aR 67 0), (5, aI l5), (6, aI v4), (7, aI v7)]) (st' := [aR 48 0]) (cs' := []) (fun _ => rfl) al0 ?_
  obtain ⟨v10, Y8, hv9, h⟩ := bd_some h
  refine l_cV1 (n := m + 7) (b' := 0) k334 (sn_163  _ _ hv9) rfl (st := []) rfl ?_
  refine l_sg k334 1 (pc' := 1744) (ls' := [(0, aR 68 0), (1, aR 0 0), (2, aR 48 0), (3, aR 66 0), (4, aR 67 0), (5, aI l5), (6, aI v4), (7, aI v7)]) (st' := [aI v4, aI v10]) (cs' := []) (fun _ => rfl) al0 ?_
  refine l_icmp_eq k334 rfl (fun c => ?_) (fun c => ?_)
  · replace h := if_t c h
    refine l_sg k334 1 (pc' := 1751) (ls' := [(0, aR 68 0), (1, aR 0 0), (2, aR 48 0), (3, aR 66 0), (4, aR 67 0), (5, aI l5), (6, aI v4), (7, aI v7)]) (st' := [aI v4]) (cs' := []) (fun _ => rfl) al0 ?_
    refine l_if_ne k334 rfl (fun c => ?_) (fun c => ?_)
    · replace h := if_f c h
      refine l_sg k334 2 (pc' := 2736) (ls' := [(0, aR 68 0), (1, aR 0 0), (2, aR 48 0), (3, aR 66 0), (4, aR 67 0), (5, aI (l5 + (nI 6))), (6, aI v4), (7, aI v7)]) (st' := []) (cs' := []) (fun _ => rfl) al0 ?_
      refine l_sg k334 1 (pc' := 28) (ls' := [(0, aR 68 0), (1, aR 0 0), (2, aR 48 0), (3, aR 66 0), (4, aR 67 0), (5, aI (l5 + (nI 6))), (6, aI v4), (7, aI v7)]) (st' := []) (cs' := []) (fun _ => rfl) al0 ?_
      refine l_ls [(0, aR 68 0), (1, aR 0 0), (2, aR 48 0), (3, aR 66 0), (4, aR 67 0), (5, aI (l5 + (nI 6)))] (lq_c rfl (lq_c rfl (lq_c rfl (lq_c rfl (lq_c rfl (lq_c rfl lq_n)))))) ?_
      obtain rfl := Option.some.inj h
      exact l_mono (hi _ _ rfl)
    · replace h := if_t c h
      refine l_sg k334 6 (pc' := 1761) (ls' := [(0, aR 68 0), (1, aR 0 0), (2, aR 48 0), (3, aR 66 0), (4, aR 67 0), (5, aI l5), (6, aI v4), (7, aI v7)]) (st' := [aI (lg_cmp (gJ Y8.1 66 0 0) ((v7).toInt64))]) (cs' := [vp_in (nI 0) 1]) (fun _ => rfl) (al1 (vin rfl)) ?_
      refine l_if_eq k334 rfl (fun c => ?_) (fun c => ?_)
      · replace h := if_t c h
        refine l_sg k334 2 (pc' := 2736) (ls' := [(0, aR 68 0), (1, aR 0 0), (2, aR 48 0), (3, aR 66 0), (4, aR 67 0), (5, aI (l5 + (nI 6))), (6, aI v4), (7, aI v7)]) (st' := []) (cs' := []) (fun _ => rfl) al0 ?_
        refine l_sg k334 1 (pc' := 28) (ls' := [(0, aR 68 0), (1, aR 0 0), (2, aR 48 0), (3, aR 66 0), (4, aR 67 0), (5, aI (l5 + (nI 6))), (6, aI v4), (7, aI v7)]) (st' := []) (cs' := []) (fun _ => rfl) al0 ?_
        refine l_ls [(0, aR 68 0), (1, aR 0 0), (2, aR 48 0), (3, aR 66 0), (4, aR 67 0), (5, aI (l5 + (nI 6)))] (lq_c rfl (lq_c rfl (lq_c rfl (lq_c rfl (lq_c rfl (lq_c rfl lq_n)))))) ?_
        obtain rfl := Option.some.inj h
        exact l_mono (hi _ _ rfl)
      · replace h := if_f c h
        refine l_sg k334 1 (pc' := 1765) (ls' := [(0, aR 68 0), (1, aR 0 0), (2, aR 48 0), (3, aR 66 0), (4, aR 67 0), (5, aI l5), (6, aI v4), (7, aI v7)]) (st' := [aI (nI 0)]) (cs' := []) (fun _ => rfl) al0 ?_
        obtain rfl := Option.some.inj h
        exact l_zreturn k334 (Or.inl rfl) (hr _ rfl)
  · replace h := if_f c h
    refine l_sg k334 1 (pc' := 1748) (ls' := [(0, aR 68 0), (1, aR 0 0), (2, aR 48 0), (3, aR 66 0), (4, aR 67 0), (5, aI l5), (6, aI v4), (7, aI v7)]) (st' := [aI (nI 0)]) (cs' := []) (fun _ => rfl) al0 ?_
    obtain rfl := Option.some.inj h
    exact l_zreturn k334 (Or.inl rfl) (hr _ rfl)
def fn_334_J1769 (L : Nat) (l5 : Int32) (Y : Sm) : Option ((Int32 × Sm) ⊕ (Int32 × Sm)) :=
  ck (inb (l5 + (nI 1)) L) <| ck (inb (l5 + (nI 2)) L) <| ck (inb (l5 + (nI 3)) L) <| bd (fn_319 (gI Y.1 68 0 (ix (l5 + (nI 1)))) (gI Y.1 68 0 (ix (l5 + (nI 2)))) (gI Y.1 68 0 (ix (l5 + (nI 3)))) Y) fun v6 Y4 => bd (fn_212 (gI Y4.1 68 0 (ix (l5 + (nI 1)))) (gI Y4.1 68 0 (ix (l5 + (nI 2)))) (gI Y4.1 68 0 (ix (l5 + (nI 3)))) Y4) fun v9 Y7 => bd (fn_163 Y7) fun v12 Y10 => (if v12 = v6 then (if v6 = (nI 0) then (if (lg_cmp (gJ Y10.1 66 0 0) ((v9).toInt64)) = (nI 0) then some (.inl ((l5 + (nI 6)), Y10)) else some (.inr ((nI 0), Y10))) else some (.inl ((l5 + (nI 6)), Y10))) else some (.inr ((nI 0), Y10)))
set_option maxRecDepth 20000 in
set_option maxHeartbeats 4000000 in
theorem sn_334_J1769 {L B m : Nat} {l5 : Int32} {Y : Sm} {q : (Int32 × Sm) ⊕ (Int32 × Sm)} {P : Option Av → Sm → Prop} {E : Nat → Sm → Prop} (hi : ∀ i Z, q = .inl (i, Z) → Wl L 16 B m 28 [(0, aR 68 0), (1, aR 0 0), (2, aR 48 0), (3, aR 66 0), (4, aR 67 0), (5, aI i)] [] Z P E) (hr : ∀ o : Int32 × Sm, q = .inr o → P (some (aI o.1)) o.2) (h : fn_334_J1769 L l5 Y = some q) : Wl L 16 B (m + 8) 1769 [(0, aR 68 0), (1, aR 0 0), (2, aR 48 0), (3, aR 66 0), (4, aR 67 0), (5, aI l5)] [] Y P E := by
  unfold fn_334_J1769 at h
  obtain ⟨hc1, h⟩ := ck_some h
  refine l_sg k334 8 (pc' := 1779) (ls' := [(0, aR 68 0), (1, aR 0 0), (2, aR 48 0), (3, aR 66 0), (4, aR 67 0), (5, aI l5)]) (st' := [aI l5, aR 68 0, aI (gI Y.1 68 0 (ix (l5 + (nI 1)))), aR 0 0]) (cs' := [vp_in (l5 + (nI 1)) L]) (fun _ => rfl) (al1 (vin hc1)) ?_
  obtain ⟨hc2, h⟩ := ck_some h
  obtain ⟨hc3, h⟩ := ck_some h
  refine l_sg k334 8 (pc' := 1788) (ls' := [(0, aR 68 0), (1, aR 0 0), (2, aR 48 0), (3, aR 66 0), (4, aR 67 0), (5, aI l5)]) (st' := [aI (gI Y.1 68 0 (ix (l5 + (nI 3)))), aI (gI Y.1 68 0 (ix (l5 + (nI 2)))), aI (gI Y.1 68 0 (ix (l5 + (nI 1)))), aR 0 0]) (cs' := [vp_in (l5 + (nI 2)) L, vp_in (l5 + (nI 3)) L]) (fun _ => rfl) (al2 (vin hc2) (al1 (vin hc3))) ?_
  refine l_sg k334 1 (pc' := 1789) (ls' := [(0, aR 68 0), (1, aR 0 0), (2, aR 48 0), (3, aR 66 0), (4, aR 67 0), (5, aI l5)]) (st' := [aR 66 0, aI (gI Y.1 68 0 (ix (l5 + (nI 3)))), aI (gI Y.1 68 0 (ix (l5 + (nI 2)))), aI (gI Y.1 68 0 (ix (l5 + (nI 1)))), aR 0 0]) (cs' := []) (fun _ => rfl) al0 ?_
  obtain ⟨v6, Y4, hv5, h⟩ := bd_some h
  refine l_cS1 (n := m + 5) (b' := 3) k334 (sn_319 _ _ _ _ _ hv5) rfl (st := []) rfl ?_
  refine l_sg k334 1 (pc' := 1794) (ls' := [(0, aR 68 0), (1, aR 0 0), (2, aR 48 0), (3, aR 66 0), (4, aR 67 0), (5, aI l5), (6, aI v6)]) (st' := []) (cs' := []) (fun _ => rfl) al0 ?_
  refine l_sg k334 8 (pc' := 1804) (ls' := [(0, aR 68 0), (1, aR 0 0), (2, aR 48 0), (3, aR 66 0), (4, aR 67 0), (5, aI l5), (6, aI v6)]) (st' := [aI l5, aR 68 0, aI (gI Y4.1 68 0 (ix (l5 + (nI 1)))), aR 48 0]) (cs' := [vp_in (l5 + (nI 1)) L]) (fun _ => rfl) (al1 (vin hc1)) ?_
  refine l_sg k334 8 (pc' := 1813) (ls' := [(0, aR 68 0), (1, aR 0 0), (2, aR 48 0), (3, aR 66 0), (4, aR 67 0), (5, aI l5), (6, aI v6)]) (st' := [aI (gI Y4.1 68 0 (ix (l5 + (nI 3)))), aI (gI Y4.1 68 0 (ix (l5 + (nI 2)))), aI (gI Y4.1 68 0 (ix (l5 + (nI 1)))), aR 48 0]) (cs' := [vp_in (l5 + (nI 2)) L, vp_in (l5 + (nI 3)) L]) (fun _ => rfl) (al2 (vin hc2) (al1 (vin hc3))) ?_
  obtain ⟨v9, Y7, hv8, h⟩ := bd_some h
  refine l_cV1 (n := m + 5) (b' := 0) k334 (sn_212 _ _ _ _ _ hv8) rfl (st := []) rfl ?_
  refine l_sg k334 1 (pc' := 1818) (ls' := [(0, aR 68 0), (1, aR 0 0), (2, aR 48 0), (3, aR 66 0), (4, aR 67 0), (5, aI l5), (6, aI v6), (7, aI v9)]) (st' := []) (cs' := []) (fun _ => rfl) al0 ?_
  refine l_sg k334 1 (pc' := 1819) (ls' := [(0, aR 68 0), (1, aR 0 0), (2, aR 48 0), (3, aR 66 0), (4, aR 67 0), (5, aI l5), (6, aI v6), (7, aI v9)]) (st' := [aR 48 0]) (cs' := []) (fun _ => rfl) al0 ?_
  obtain ⟨v12, Y10, hv11, h⟩ := bd_some h
  refine l_cV1 (n := m + 5) (b' := 0) k334 (sn_163  _ _ hv11) rfl (st := []) rfl ?_
  refine l_sg k334 1 (pc' := 1824) (ls' := [(0, aR 68 0), (1, aR 0 0), (2, aR 48 0), (3, aR 66 0), (4, aR 67 0), (5, aI l5), (6, aI v6), (7, aI v9)]) (st' := [aI v6, aI v12]) (cs' := []) (fun _ => rfl) al0 ?_
  refine l_icmp_eq k334 rfl (fun c => ?_) (fun c => ?_)
  · replace h := if_t c h
    refine l_sg k334 1 (pc' := 1831) (ls' := [(0, aR 68 0), (1, aR 0 0), (2, aR 48 0), (3, aR 66 0), (4, aR 67 0), (5, aI l5), (6, aI v6), (7, aI v9)]) (st' := [aI v6]) (cs' := []) (fun _ => rfl) al0 ?_
    refine l_if_ne k334 rfl (fun c => ?_) (fun c => ?_)
    · replace h := if_f c h
      refine l_sg k334 2 (pc' := 2736) (ls' := [(0, aR 68 0), (1, aR 0 0), (2, aR 48 0), (3, aR 66 0), (4, aR 67 0), (5, aI (l5 + (nI 6))), (6, aI v6), (7, aI v9)]) (st' := []) (cs' := []) (fun _ => rfl) al0 ?_
      refine l_sg k334 1 (pc' := 28) (ls' := [(0, aR 68 0), (1, aR 0 0), (2, aR 48 0), (3, aR 66 0), (4, aR 67 0), (5, aI (l5 + (nI 6))), (6, aI v6), (7, aI v9)]) (st' := []) (cs' := []) (fun _ => rfl) al0 ?_
      refine l_ls [(0, aR 68 0), (1, aR 0 0), (2, aR 48 0), (3, aR 66 0), (4, aR 67 0), (5, aI (l5 + (nI 6)))] (lq_c rfl (lq_c rfl (lq_c rfl (lq_c rfl (lq_c rfl (lq_c rfl lq_n)))))) ?_
      obtain rfl := Option.some.inj h
      exact l_mono (hi _ _ rfl)
    · replace h := if_t c h
      refine l_sg k334 6 (pc' := 1841) (ls' := [(0, aR 68 0), (1, aR 0 0), (2, aR 48 0), (3, aR 66 0), (4, aR 67 0), (5, aI l5), (6, aI v6), (7, aI v9)]) (st' := [aI (lg_cmp (gJ Y10.1 66 0 0) ((v9).toInt64))]) (cs' := [vp_in (nI 0) 1]) (fun _ => rfl) (al1 (vin rfl)) ?_
      refine l_if_eq k334 rfl (fun c => ?_) (fun c => ?_)
      · replace h := if_t c h
        refine l_sg k334 2 (pc' := 2736) (ls' := [(0, aR 68 0), (1, aR 0 0), (2, aR 48 0), (3, aR 66 0), (4, aR 67 0), (5, aI (l5 + (nI 6))), (6, aI v6), (7, aI v9)]) (st' := []) (cs' := []) (fun _ => rfl) al0 ?_
        refine l_sg k334 1 (pc' := 28) (ls' := [(0, aR 68 0), (1, aR 0 0), (2, aR 48 0), (3, aR 66 0), (4, aR 67 0), (5, aI (l5 + (nI 6))), (6, aI v6), (7, aI v9)]) (st' := []) (cs' := []) (fun _ => rfl) al0 ?_
        refine l_ls [(0, aR 68 0), (1, aR 0 0), (2, aR 48 0), (3, aR 66 0), (4, aR 67 0), (5, aI (l5 + (nI 6)))] (lq_c rfl (lq_c rfl (lq_c rfl (lq_c rfl (lq_c rfl (lq_c rfl lq_n)))))) ?_
        obtain rfl := Option.some.inj h
        exact l_mono (hi _ _ rfl)
      · replace h := if_f c h
        refine l_sg k334 1 (pc' := 1845) (ls' := [(0, aR 68 0), (1, aR 0 0), (2, aR 48 0), (3, aR 66 0), (4, aR 67 0), (5, aI l5), (6, aI v6), (7, aI v9)]) (st' := [aI (nI 0)]) (cs' := []) (fun _ => rfl) al0 ?_
        obtain rfl := Option.some.inj h
        exact l_zreturn k334 (Or.inl rfl) (hr _ rfl)
  · replace h := if_f c h
    refine l_sg k334 1 (pc' := 1828) (ls' := [(0, aR 68 0), (1, aR 0 0), (2, aR 48 0), (3, aR 66 0), (4, aR 67 0), (5, aI l5), (6, aI v6), (7, aI v9)]) (st' := [aI (nI 0)]) (cs' := []) (fun _ => rfl) al0 ?_
    obtain rfl := Option.some.inj h
    exact l_zreturn k334 (Or.inl rfl) (hr _ rfl)
def fn_334_J1849 (L : Nat) (l5 : Int32) (Y : Sm) : Option ((Int32 × Sm) ⊕ (Int32 × Sm)) :=
  ck (inb (l5 + (nI 1)) L) <| bd (fn_320 (gI Y.1 68 0 (ix (l5 + (nI 1)))) Y) fun v4 Y2 => bd (fn_213 (gI Y2.1 68 0 (ix (l5 + (nI 1)))) Y2) fun v7 Y5 => bd (fn_163 Y5) fun v10 Y8 => (if v10 = v4 then (if v4 = (nI 0) then (if (lg_cmp (gJ Y8.1 66 0 0) ((v7).toInt64)) = (nI 0) then some (.inl ((l5 + (nI 6)), Y8)) else some (.inr ((nI 0), Y8))) else some (.inl ((l5 + (nI 6)), Y8))) else some (.inr ((nI 0), Y8)))
set_option maxRecDepth 20000 in
set_option maxHeartbeats 4000000 in
theorem sn_334_J1849 {L B m : Nat} {l5 : Int32} {Y : Sm} {q : (Int32 × Sm) ⊕ (Int32 × Sm)} {P : Option Av → Sm → Prop} {E : Nat → Sm → Prop} (hi : ∀ i Z, q = .inl (i, Z) → Wl L 16 B m 28 [(0, aR 68 0), (1, aR 0 0), (2, aR 48 0), (3, aR 66 0), (4, aR 67 0), (5, aI i)] [] Z P E) (hr : ∀ o : Int32 × Sm, q = .inr o → P (some (aI o.1)) o.2) (h : fn_334_J1849 L l5 Y = some q) : Wl L 16 B (m + 8) 1849 [(0, aR 68 0), (1, aR 0 0), (2, aR 48 0), (3, aR 66 0), (4, aR 67 0), (5, aI l5)] [] Y P E := by
  unfold fn_334_J1849 at h
  obtain ⟨hc1, h⟩ := ck_some h
  refine l_sg k334 7 (pc' := 1857) (ls' := [(0, aR 68 0), (1, aR 0 0), (2, aR 48 0), (3, aR 66 0), (4, aR 67 0), (5, aI l5)]) (st' := [aR 66 0, aI (gI Y.1 68 0 (ix (l5 + (nI 1)))), aR 0 0]) (cs' := [vp_in (l5 + (nI 1)) L]) (fun _ => rfl) (al1 (vin hc1)) ?_
  obtain ⟨v4, Y2, hv3, h⟩ := bd_some h
  refine l_cS1 (n := m + 6) (b' := 2) k334 (sn_320 _ _ _ hv3) rfl (st := []) rfl ?_
  refine l_sg k334 1 (pc' := 1862) (ls' := [(0, aR 68 0), (1, aR 0 0), (2, aR 48 0), (3, aR 66 0), (4, aR 67 0), (5, aI l5), (6, aI v4)]) (st' := []) (cs' := []) (fun _ => rfl) al0 ?_
  refine l_sg k334 6 (pc' := 1869) (ls' := [(0, aR 68 0), (1, aR 0 0), (2, aR 48 0), (3, aR 66 0), (4, aR 67 0), (5, aI l5), (6, aI v4)]) (st' := [aI (gI Y2.1 68 0 (ix (l5 + (nI 1)))), aR 48 0]) (cs' := [vp_in (l5 + (nI 1)) L]) (fun _ => rfl) (al1 (vin hc1)) ?_
  obtain ⟨v7, Y5, hv6, h⟩ := bd_some h
  refine l_cV1 (n := m + 6) (b' := 0) k334 (sn_213 _ _ _ hv6) rfl (st := []) rfl ?_
  refine l_sg k334 1 (pc' := 1874) (ls' := [(0, aR 68 0), (1, aR 0 0), (2, aR 48 0), (3, aR 66 0), (4, aR 67 0), (5, aI l5), (6, aI v4), (7, aI v7)]) (st' := []) (cs' := []) (fun _ => rfl) al0 ?_
  refine l_sg k334 1 (pc' := 1875) (ls' := [(0, aR 68 0), (1, aR 0 0), (2, aR 48 0), (3, aR 66 0), (4, aR 67 0), (5, aI l5), (6, aI v4), (7, aI v7)]) (st' := [aR 48 0]) (cs' := []) (fun _ => rfl) al0 ?_
  obtain ⟨v10, Y8, hv9, h⟩ := bd_some h
  refine l_cV1 (n := m + 6) (b' := 0) k334 (sn_163  _ _ hv9) rfl (st := []) rfl ?_
  refine l_sg k334 1 (pc' := 1880) (ls' := [(0, aR 68 0), (1, aR 0 0), (2, aR 48 0), (3, aR 66 0), (4, aR 67 0), (5, aI l5), (6, aI v4), (7, aI v7)]) (st' := [aI v4, aI v10]) (cs' := []) (fun _ => rfl) al0 ?_
  refine l_icmp_eq k334 rfl (fun c => ?_) (fun c => ?_)
  · replace h := if_t c h
    refine l_sg k334 1 (pc' := 1887) (ls' := [(0, aR 68 0), (1, aR 0 0), (2, aR 48 0), (3, aR 66 0), (4, aR 67 0), (5, aI l5), (6, aI v4), (7, aI v7)]) (st' := [aI v4]) (cs' := []) (fun _ => rfl) al0 ?_
    refine l_if_ne k334 rfl (fun c => ?_) (fun c => ?_)
    · replace h := if_f c h
      refine l_sg k334 2 (pc' := 2736) (ls' := [(0, aR 68 0), (1, aR 0 0), (2, aR 48 0), (3, aR 66 0), (4, aR 67 0), (5, aI (l5 + (nI 6))), (6, aI v4), (7, aI v7)]) (st' := []) (cs' := []) (fun _ => rfl) al0 ?_
      refine l_sg k334 1 (pc' := 28) (ls' := [(0, aR 68 0), (1, aR 0 0), (2, aR 48 0), (3, aR 66 0), (4, aR 67 0), (5, aI (l5 + (nI 6))), (6, aI v4), (7, aI v7)]) (st' := []) (cs' := []) (fun _ => rfl) al0 ?_
      refine l_ls [(0, aR 68 0), (1, aR 0 0), (2, aR 48 0), (3, aR 66 0), (4, aR 67 0), (5, aI (l5 + (nI 6)))] (lq_c rfl (lq_c rfl (lq_c rfl (lq_c rfl (lq_c rfl (lq_c rfl lq_n)))))) ?_
      obtain rfl := Option.some.inj h
      exact l_mono (hi _ _ rfl)
    · replace h := if_t c h
      refine l_sg k334 6 (pc' := 1897) (ls' := [(0, aR 68 0), (1, aR 0 0), (2, aR 48 0), (3, aR 66 0), (4, aR 67 0), (5, aI l5), (6, aI v4), (7, aI v7)]) (st' := [aI (lg_cmp (gJ Y8.1 66 0 0) ((v7).toInt64))]) (cs' := [vp_in (nI 0) 1]) (fun _ => rfl) (al1 (vin rfl)) ?_
      refine l_if_eq k334 rfl (fun c => ?_) (fun c => ?_)
      · replace h := if_t c h
        refine l_sg k334 2 (pc' := 2736) (ls' := [(0, aR 68 0), (1, aR 0 0), (2, aR 48 0), (3, aR 66 0), (4, aR 67 0), (5, aI (l5 + (nI 6))), (6, aI v4), (7, aI v7)]) (st' := []) (cs' := []) (fun _ => rfl) al0 ?_
        refine l_sg k334 1 (pc' := 28) (ls' := [(0, aR 68 0), (1, aR 0 0), (2, aR 48 0), (3, aR 66 0), (4, aR 67 0), (5, aI (l5 + (nI 6))), (6, aI v4), (7, aI v7)]) (st' := []) (cs' := []) (fun _ => rfl) al0 ?_
        refine l_ls [(0, aR 68 0), (1, aR 0 0), (2, aR 48 0), (3, aR 66 0), (4, aR 67 0), (5, aI (l5 + (nI 6)))] (lq_c rfl (lq_c rfl (lq_c rfl (lq_c rfl (lq_c rfl (lq_c rfl lq_n)))))) ?_
        obtain rfl := Option.some.inj h
        exact l_mono (hi _ _ rfl)
      · replace h := if_f c h
        refine l_sg k334 1 (pc' := 1901) (ls' := [(0, aR 68 0), (1, aR 0 0), (2, aR 48 0), (3, aR 66 0), (4, aR 67 0), (5, aI l5), (6, aI v4), (7, aI v7)]) (st' := [aI (nI 0)]) (cs' := []) (fun _ => rfl) al0 ?_
        obtain rfl := Option.some.inj h
        exact l_zreturn k334 (Or.inl rfl) (hr _ rfl)
  · replace h := if_f c h
    refine l_sg k334 1 (pc' := 1884) (ls' := [(0, aR 68 0), (1, aR 0 0), (2, aR 48 0), (3, aR 66 0), (4, aR 67 0), (5, aI l5), (6, aI v4), (7, aI v7)]) (st' := [aI (nI 0)]) (cs' := []) (fun _ => rfl) al0 ?_
    obtain rfl := Option.some.inj h
    exact l_zreturn k334 (Or.inl rfl) (hr _ rfl)
def fn_334_J1905 (L : Nat) (l5 : Int32) (Y : Sm) : Option ((Int32 × Sm) ⊕ (Int32 × Sm)) :=
  ck (inb (l5 + (nI 1)) L) <| bd (fn_321 (gI Y.1 68 0 (ix (l5 + (nI 1)))) Y) fun v4 Y2 => bd (fn_216 (gI Y2.1 68 0 (ix (l5 + (nI 1)))) Y2) fun v7 Y5 => bd (fn_163 Y5) fun v10 Y8 => (if v10 = v4 then (if v4 = (nI 0) then (if (lg_cmp (gJ Y8.1 66 0 0) ((v7).toInt64)) = (nI 0) then some (.inl ((l5 + (nI 6)), Y8)) else some (.inr ((nI 0), Y8))) else some (.inl ((l5 + (nI 6)), Y8))) else some (.inr ((nI 0), Y8)))
set_option maxRecDepth 20000 in
set_option maxHeartbeats 4000000 in
theorem sn_334_J1905 {L B m : Nat} {l5 : Int32} {Y : Sm} {q : (Int32 × Sm) ⊕ (Int32 × Sm)} {P : Option Av → Sm → Prop} {E : Nat → Sm → Prop} (hi : ∀ i Z, q = .inl (i, Z) → Wl L 16 B m 28 [(0, aR 68 0), (1, aR 0 0), (2, aR 48 0), (3, aR 66 0), (4, aR 67 0), (5, aI i)] [] Z P E) (hr : ∀ o : Int32 × Sm, q = .inr o → P (some (aI o.1)) o.2) (h : fn_334_J1905 L l5 Y = some q) : Wl L 16 B (m + 8) 1905 [(0, aR 68 0), (1, aR 0 0), (2, aR 48 0), (3, aR 66 0), (4, aR 67 0), (5, aI l5)] [] Y P E := by
  unfold fn_334_J1905 at h
  obtain ⟨hc1, h⟩ := ck_some h
  refine l_sg k334 7 (pc' := 1913) (ls' := [(0, aR 68 0), (1, aR 0 0), (2, aR 48 0), (3, aR 66 0), (4, aR 67 0), (5, aI l5)]) (st' := [aR 66 0, aI (gI Y.1 68 0 (ix (l5 + (nI 1)))), aR 0 0]) (cs' := [vp_in (l5 + (nI 1)) L]) (fun _ => rfl) (al1 (vin hc1)) ?_
  obtain ⟨v4, Y2, hv3, h⟩ := bd_some h
  refine l_cS1 (n := m + 7) (b' := 1) k334 (sn_321 _ _ _ hv3) rfl (st := []) rfl ?_
  refine l_sg k334 1 (pc' := 1918) (ls' := [(0, aR 68 0), (1, aR 0 0), (2, aR 48 0), (3, aR 66 0), (4, aR 67 0), (5, aI l5), (6, aI v4)]) (st' := []) (cs' := []) (fun _ => rfl) al0 ?_
  refine l_sg k334 6 (pc' := 1925) (ls' := [(0, aR 68 0), (1, aR 0 0), (2, aR 48 0), (3, aR 66 0), (4, aR 67 0), (5, aI l5), (6, aI v4)]) (st' := [aI (gI Y2.1 68 0 (ix (l5 + (nI 1)))), aR 48 0]) (cs' := [vp_in (l5 + (nI 1)) L]) (fun _ => rfl) (al1 (vin hc1)) ?_
  obtain ⟨v7, Y5, hv6, h⟩ := bd_some h
  refine l_cV1 (n := m + 7) (b' := 0) k334 (sn_216 _ _ _ hv6) rfl (st := []) rfl ?_
  refine l_sg k334 1 (pc' := 1930) (ls' := [(0, aR 68 0), (1, aR 0 0), (2, aR 48 0), (3, aR 66 0), (4, aR 67 0), (5, aI l5), (6, aI v4), (7, aI v7)]) (st' := []) (cs' := []) (fun _ => rfl) al0 ?_
  refine l_sg k334 1 (pc' := 1931) (ls' := [(0, aR 68 0), (1, aR 0 0), (2, aR 48 0), (3, aR 66 0), (4, aR 67 0), (5, aI l5), (6, aI v4), (7, aI v7)]) (st' := [aR 48 0]) (cs' := []) (fun _ => rfl) al0 ?_
  obtain ⟨v10, Y8, hv9, h⟩ := bd_some h
  refine l_cV1 (n := m + 7) (b' := 0) k334 (sn_163  _ _ hv9) rfl (st := []) rfl ?_
  refine l_sg k334 1 (pc' := 1936) (ls' := [(0, aR 68 0), (1, aR 0 0), (2, aR 48 0), (3, aR 66 0), (4, aR 67 0), (5, aI l5), (6, aI v4), (7, aI v7)]) (st' := [aI v4, aI v10]) (cs' := []) (fun _ => rfl) al0 ?_
  refine l_icmp_eq k334 rfl (fun c => ?_) (fun c => ?_)
  · replace h := if_t c h
    refine l_sg k334 1 (pc' := 1943) (ls' := [(0, aR 68 0), (1, aR 0 0), (2, aR 48 0), (3, aR 66 0), (4, aR 67 0), (5, aI l5), (6, aI v4), (7, aI v7)]) (st' := [aI v4]) (cs' := []) (fun _ => rfl) al0 ?_
    refine l_if_ne k334 rfl (fun c => ?_) (fun c => ?_)
    · replace h := if_f c h
      refine l_sg k334 2 (pc' := 2736) (ls' := [(0, aR 68 0), (1, aR 0 0), (2, aR 48 0), (3, aR 66 0), (4, aR 67 0), (5, aI (l5 + (nI 6))), (6, aI v4), (7, aI v7)]) (st' := []) (cs' := []) (fun _ => rfl) al0 ?_
      refine l_sg k334 1 (pc' := 28) (ls' := [(0, aR 68 0), (1, aR 0 0), (2, aR 48 0), (3, aR 66 0), (4, aR 67 0), (5, aI (l5 + (nI 6))), (6, aI v4), (7, aI v7)]) (st' := []) (cs' := []) (fun _ => rfl) al0 ?_
      refine l_ls [(0, aR 68 0), (1, aR 0 0), (2, aR 48 0), (3, aR 66 0), (4, aR 67 0), (5, aI (l5 + (nI 6)))] (lq_c rfl (lq_c rfl (lq_c rfl (lq_c rfl (lq_c rfl (lq_c rfl lq_n)))))) ?_
      obtain rfl := Option.some.inj h
      exact l_mono (hi _ _ rfl)
    · replace h := if_t c h
      refine l_sg k334 6 (pc' := 1953) (ls' := [(0, aR 68 0), (1, aR 0 0), (2, aR 48 0), (3, aR 66 0), (4, aR 67 0), (5, aI l5), (6, aI v4), (7, aI v7)]) (st' := [aI (lg_cmp (gJ Y8.1 66 0 0) ((v7).toInt64))]) (cs' := [vp_in (nI 0) 1]) (fun _ => rfl) (al1 (vin rfl)) ?_
      refine l_if_eq k334 rfl (fun c => ?_) (fun c => ?_)
      · replace h := if_t c h
        refine l_sg k334 2 (pc' := 2736) (ls' := [(0, aR 68 0), (1, aR 0 0), (2, aR 48 0), (3, aR 66 0), (4, aR 67 0), (5, aI (l5 + (nI 6))), (6, aI v4), (7, aI v7)]) (st' := []) (cs' := []) (fun _ => rfl) al0 ?_
        refine l_sg k334 1 (pc' := 28) (ls' := [(0, aR 68 0), (1, aR 0 0), (2, aR 48 0), (3, aR 66 0), (4, aR 67 0), (5, aI (l5 + (nI 6))), (6, aI v4), (7, aI v7)]) (st' := []) (cs' := []) (fun _ => rfl) al0 ?_
        refine l_ls [(0, aR 68 0), (1, aR 0 0), (2, aR 48 0), (3, aR 66 0), (4, aR 67 0), (5, aI (l5 + (nI 6)))] (lq_c rfl (lq_c rfl (lq_c rfl (lq_c rfl (lq_c rfl (lq_c rfl lq_n)))))) ?_
        obtain rfl := Option.some.inj h
        exact l_mono (hi _ _ rfl)
      · replace h := if_f c h
        refine l_sg k334 1 (pc' := 1957) (ls' := [(0, aR 68 0), (1, aR 0 0), (2, aR 48 0), (3, aR 66 0), (4, aR 67 0), (5, aI l5), (6, aI v4), (7, aI v7)]) (st' := [aI (nI 0)]) (cs' := []) (fun _ => rfl) al0 ?_
        obtain rfl := Option.some.inj h
        exact l_zreturn k334 (Or.inl rfl) (hr _ rfl)
  · replace h := if_f c h
    refine l_sg k334 1 (pc' := 1940) (ls' := [(0, aR 68 0), (1, aR 0 0), (2, aR 48 0), (3, aR 66 0), (4, aR 67 0), (5, aI l5), (6, aI v4), (7, aI v7)]) (st' := [aI (nI 0)]) (cs' := []) (fun _ => rfl) al0 ?_
    obtain rfl := Option.some.inj h
    exact l_zreturn k334 (Or.inl rfl) (hr _ rfl)
def fn_334_J1961 (L : Nat) (l5 : Int32) (Y : Sm) : Option ((Int32 × Sm) ⊕ (Int32 × Sm)) :=
  ck (inb (l5 + (nI 1)) L) <| ck (inb (l5 + (nI 2)) L) <| bd (fn_322 (gI Y.1 68 0 (ix (l5 + (nI 1)))) (gI Y.1 68 0 (ix (l5 + (nI 2)))) Y) fun v5 Y3 => bd (fn_220 (gI Y3.1 68 0 (ix (l5 + (nI 1)))) (gI Y3.1 68 0 (ix (l5 + (nI 2)))) Y3) fun v8 Y6 => bd (fn_163 Y6) fun v11 Y9 => (if v11 = v5 then (if v5 = (nI 0) then (if (lg_cmp (gJ Y9.1 66 0 0) ((v8).toInt64)) = (nI 0) then some (.inl ((l5 + (nI 6)), Y9)) else some (.inr ((nI 0), Y9))) else some (.inl ((l5 + (nI 6)), Y9))) else some (.inr ((nI 0), Y9)))
set_option maxRecDepth 20000 in
set_option maxHeartbeats 4000000 in
theorem sn_334_J1961 {L B m : Nat} {l5 : Int32} {Y : Sm} {q : (Int32 × Sm) ⊕ (Int32 × Sm)} {P : Option Av → Sm → Prop} {E : Nat → Sm → Prop} (hi : ∀ i Z, q = .inl (i, Z) → Wl L 16 B m 28 [(0, aR 68 0), (1, aR 0 0), (2, aR 48 0), (3, aR 66 0), (4, aR 67 0), (5, aI i)] [] Z P E) (hr : ∀ o : Int32 × Sm, q = .inr o → P (some (aI o.1)) o.2) (h : fn_334_J1961 L l5 Y = some q) : Wl L 16 B (m + 8) 1961 [(0, aR 68 0), (1, aR 0 0), (2, aR 48 0), (3, aR 66 0), (4, aR 67 0), (5, aI l5)] [] Y P E := by
  unfold fn_334_J1961 at h
  obtain ⟨hc1, h⟩ := ck_some h
  refine l_sg k334 8 (pc' := 1971) (ls' := [(0, aR 68 0), (1, aR 0 0), (2, aR 48 0), (3, aR 66 0), (4, aR 67 0), (5, aI l5)]) (st' := [aI l5, aR 68 0, aI (gI Y.1 68 0 (ix (l5 + (nI 1)))), aR 0 0]) (cs' := [vp_in (l5 + (nI 1)) L]) (fun _ => rfl) (al1 (vin hc1)) ?_
  obtain ⟨hc2, h⟩ := ck_some h
  refine l_sg k334 4 (pc' := 1975) (ls' := [(0, aR 68 0), (1, aR 0 0), (2, aR 48 0), (3, aR 66 0), (4, aR 67 0), (5, aI l5)]) (st' := [aR 66 0, aI (gI Y.1 68 0 (ix (l5 + (nI 2)))), aI (gI Y.1 68 0 (ix (l5 + (nI 1)))), aR 0 0]) (cs' := [vp_in (l5 + (nI 2)) L]) (fun _ => rfl) (al1 (vin hc2)) ?_
  obtain ⟨v5, Y3, hv4, h⟩ := bd_some h
  refine l_cS1 (n := m + 5) (b' := 3) k334 (sn_322 _ _ _ _ hv4) rfl (st := []) rfl ?_
  refine l_sg k334 1 (pc' := 1980) (ls' := [(0, aR 68 0), (1, aR 0 0), (2, aR 48 0), (3, aR 66 0), (4, aR 67 0), (5, aI l5), (6, aI v5)]) (st' := []) (cs' := []) (fun _ => rfl) al0 ?_
  refine l_sg k334 8 (pc' := 1990) (ls' := [(0, aR 68 0), (1, aR 0 0), (2, aR 48 0), (3, aR 66 0), (4, aR 67 0), (5, aI l5), (6, aI v5)]) (st' := [aI l5, aR 68 0, aI (gI Y3.1 68 0 (ix (l5 + (nI 1)))), aR 48 0]) (cs' := [vp_in (l5 + (nI 1)) L]) (fun _ => rfl) (al1 (vin hc1)) ?_
  refine l_sg k334 3 (pc' := 1993) (ls' := [(0, aR 68 0), (1, aR 0 0), (2, aR 48 0), (3, aR 66 0), (4, aR 67 0), (5, aI l5), (6, aI v5)]) (st' := [aI (gI Y3.1 68 0 (ix (l5 + (nI 2)))), aI (gI Y3.1 68 0 (ix (l5 + (nI 1)))), aR 48 0]) (cs' := [vp_in (l5 + (nI 2)) L]) (fun _ => rfl) (al1 (vin hc2)) ?_
  obtain ⟨v8, Y6, hv7, h⟩ := bd_some h
  refine l_cV1 (n := m + 5) (b' := 0) k334 (sn_220 _ _ _ _ hv7) rfl (st := []) rfl ?_
  refine l_sg k334 1 (pc' := 1998) (ls' := [(0, aR 68 0), (1, aR 0 0), (2, aR 48 0), (3, aR 66 0), (4, aR 67 0), (5, aI l5), (6, aI v5), (7, aI v8)]) (st' := []) (cs' := []) (fun _ => rfl) al0 ?_
  refine l_sg k334 1 (pc' := 1999) (ls' := [(0, aR 68 0), (1, aR 0 0), (2, aR 48 0), (3, aR 66 0), (4, aR 67 0), (5, aI l5), (6, aI v5), (7, aI v8)]) (st' := [aR 48 0]) (cs' := []) (fun _ => rfl) al0 ?_
  obtain ⟨v11, Y9, hv10, h⟩ := bd_some h
  refine l_cV1 (n := m + 5) (b' := 0) k334 (sn_163  _ _ hv10) rfl (st := []) rfl ?_
  refine l_sg k334 1 (pc' := 2004) (ls' := [(0, aR 68 0), (1, aR 0 0), (2, aR 48 0), (3, aR 66 0), (4, aR 67 0), (5, aI l5), (6, aI v5), (7, aI v8)]) (st' := [aI v5, aI v11]) (cs' := []) (fun _ => rfl) al0 ?_
  refine l_icmp_eq k334 rfl (fun c => ?_) (fun c => ?_)
  · replace h := if_t c h
    refine l_sg k334 1 (pc' := 2011) (ls' := [(0, aR 68 0), (1, aR 0 0), (2, aR 48 0), (3, aR 66 0), (4, aR 67 0), (5, aI l5), (6, aI v5), (7, aI v8)]) (st' := [aI v5]) (cs' := []) (fun _ => rfl) al0 ?_
    refine l_if_ne k334 rfl (fun c => ?_) (fun c => ?_)
    · replace h := if_f c h
      refine l_sg k334 2 (pc' := 2736) (ls' := [(0, aR 68 0), (1, aR 0 0), (2, aR 48 0), (3, aR 66 0), (4, aR 67 0), (5, aI (l5 + (nI 6))), (6, aI v5), (7, aI v8)]) (st' := []) (cs' := []) (fun _ => rfl) al0 ?_
      refine l_sg k334 1 (pc' := 28) (ls' := [(0, aR 68 0), (1, aR 0 0), (2, aR 48 0), (3, aR 66 0), (4, aR 67 0), (5, aI (l5 + (nI 6))), (6, aI v5), (7, aI v8)]) (st' := []) (cs' := []) (fun _ => rfl) al0 ?_
      refine l_ls [(0, aR 68 0), (1, aR 0 0), (2, aR 48 0), (3, aR 66 0), (4, aR 67 0), (5, aI (l5 + (nI 6)))] (lq_c rfl (lq_c rfl (lq_c rfl (lq_c rfl (lq_c rfl (lq_c rfl lq_n)))))) ?_
      obtain rfl := Option.some.inj h
      exact l_mono (hi _ _ rfl)
    · replace h := if_t c h
      refine l_sg k334 6 (pc' := 2021) (ls' := [(0, aR 68 0), (1, aR 0 0), (2, aR 48 0), (3, aR 66 0), (4, aR 67 0), (5, aI l5), (6, aI v5), (7, aI v8)]) (st' := [aI (lg_cmp (gJ Y9.1 66 0 0) ((v8).toInt64))]) (cs' := [vp_in (nI 0) 1]) (fun _ => rfl) (al1 (vin rfl)) ?_
      refine l_if_eq k334 rfl (fun c => ?_) (fun c => ?_)
      · replace h := if_t c h
        refine l_sg k334 2 (pc' := 2736) (ls' := [(0, aR 68 0), (1, aR 0 0), (2, aR 48 0), (3, aR 66 0), (4, aR 67 0), (5, aI (l5 + (nI 6))), (6, aI v5), (7, aI v8)]) (st' := []) (cs' := []) (fun _ => rfl) al0 ?_
        refine l_sg k334 1 (pc' := 28) (ls' := [(0, aR 68 0), (1, aR 0 0), (2, aR 48 0), (3, aR 66 0), (4, aR 67 0), (5, aI (l5 + (nI 6))), (6, aI v5), (7, aI v8)]) (st' := []) (cs' := []) (fun _ => rfl) al0 ?_
        refine l_ls [(0, aR 68 0), (1, aR 0 0), (2, aR 48 0), (3, aR 66 0), (4, aR 67 0), (5, aI (l5 + (nI 6)))] (lq_c rfl (lq_c rfl (lq_c rfl (lq_c rfl (lq_c rfl (lq_c rfl lq_n)))))) ?_
        obtain rfl := Option.some.inj h
        exact l_mono (hi _ _ rfl)
      · replace h := if_f c h
        refine l_sg k334 1 (pc' := 2025) (ls' := [(0, aR 68 0), (1, aR 0 0), (2, aR 48 0), (3, aR 66 0), (4, aR 67 0), (5, aI l5), (6, aI v5), (7, aI v8)]) (st' := [aI (nI 0)]) (cs' := []) (fun _ => rfl) al0 ?_
        obtain rfl := Option.some.inj h
        exact l_zreturn k334 (Or.inl rfl) (hr _ rfl)
  · replace h := if_f c h
    refine l_sg k334 1 (pc' := 2008) (ls' := [(0, aR 68 0), (1, aR 0 0), (2, aR 48 0), (3, aR 66 0), (4, aR 67 0), (5, aI l5), (6, aI v5), (7, aI v8)]) (st' := [aI (nI 0)]) (cs' := []) (fun _ => rfl) al0 ?_
    obtain rfl := Option.some.inj h
    exact l_zreturn k334 (Or.inl rfl) (hr _ rfl)
def fn_334_J2029 (L : Nat) (l5 : Int32) (Y : Sm) : Option ((Int32 × Sm) ⊕ (Int32 × Sm)) :=
  ck (inb (l5 + (nI 1)) L) <| bd (fn_323 (gI Y.1 68 0 (ix (l5 + (nI 1)))) Y) fun v4 Y2 => bd (fn_221 (gI Y2.1 68 0 (ix (l5 + (nI 1)))) Y2) fun v7 Y5 => bd (fn_163 Y5) fun v10 Y8 => (if v10 = v4 then (if v4 = (nI 0) then (if (lg_cmp (gJ Y8.1 66 0 0) ((v7).toInt64)) = (nI 0) then some (.inl ((l5 + (nI 6)), Y8)) else some (.inr ((nI 0), Y8))) else some (.inl ((l5 + (nI 6)), Y8))) else some (.inr ((nI 0), Y8)))
set_option maxRecDepth 20000 in
set_option maxHeartbeats 4000000 in
theorem sn_334_J2029 {L B m : Nat} {l5 : Int32} {Y : Sm} {q : (Int32 × Sm) ⊕ (Int32 × Sm)} {P : Option Av → Sm → Prop} {E : Nat → Sm → Prop} (hi : ∀ i Z, q = .inl (i, Z) → Wl L 16 B m 28 [(0, aR 68 0), (1, aR 0 0), (2, aR 48 0), (3, aR 66 0), (4, aR 67 0), (5, aI i)] [] Z P E) (hr : ∀ o : Int32 × Sm, q = .inr o → P (some (aI o.1)) o.2) (h : fn_334_J2029 L l5 Y = some q) : Wl L 16 B (m + 8) 2029 [(0, aR 68 0), (1, aR 0 0), (2, aR 48 0), (3, aR 66 0), (4, aR 67 0), (5, aI l5)] [] Y P E := by
  unfold fn_334_J2029 at h
  obtain ⟨hc1, h⟩ := ck_some h
  refine l_sg k334 7 (pc' := 2037) (ls' := [(0, aR 68 0), (1, aR 0 0), (2, aR 48 0), (3, aR 66 0), (4, aR 67 0), (5, aI l5)]) (st' := [aR 66 0, aI (gI Y.1 68 0 (ix (l5 + (nI 1)))), aR 0 0]) (cs' := [vp_in (l5 + (nI 1)) L]) (fun _ => rfl) (al1 (vin hc1)) ?_
  obtain ⟨v4, Y2, hv3, h⟩ := bd_some h
  refine l_cS1 (n := m + 7) (b' := 1) k334 (sn_323 _ _ _ hv3) rfl (st := []) rfl ?_
  refine l_sg k334 1 (pc' := 2042) (ls' := [(0, aR 68 0), (1, aR 0 0), (2, aR 48 0), (3, aR 66 0), (4, aR 67 0), (5, aI l5), (6, aI v4)]) (st' := []) (cs' := []) (fun _ => rfl) al0 ?_
  refine l_sg k334 6 (pc' := 2049) (ls' := [(0, aR 68 0), (1, aR 0 0), (2, aR 48 0), (3, aR 66 0), (4, aR 67 0), (5, aI l5), (6, aI v4)]) (st' := [aI (gI Y2.1 68 0 (ix (l5 + (nI 1)))), aR 48 0]) (cs' := [vp_in (l5 + (nI 1)) L]) (fun _ => rfl) (al1 (vin hc1)) ?_
  obtain ⟨v7, Y5, hv6, h⟩ := bd_some h
  refine l_cV1 (n := m + 7) (b' := 0) k334 (sn_221 _ _ _ hv6) rfl (st := []) rfl ?_
  refine l_sg k334 1 (pc' := 2054) (ls' := [(0, aR 68 0), (1, aR 0 0), (2, aR 48 0), (3, aR 66 0), (4, aR 67 0), (5, aI l5), (6, aI v4), (7, aI v7)]) (st' := []) (cs' := []) (fun _ => rfl) al0 ?_
  refine l_sg k334 1 (pc' := 2055) (ls' := [(0, aR 68 0), (1, aR 0 0), (2, aR 48 0), (3, aR 66 0), (4, aR 67 0), (5, aI l5), (6, aI v4), (7, aI v7)]) (st' := [aR 48 0]) (cs' := []) (fun _ => rfl) al0 ?_
  obtain ⟨v10, Y8, hv9, h⟩ := bd_some h
  refine l_cV1 (n := m + 7) (b' := 0) k334 (sn_163  _ _ hv9) rfl (st := []) rfl ?_
  refine l_sg k334 1 (pc' := 2060) (ls' := [(0, aR 68 0), (1, aR 0 0), (2, aR 48 0), (3, aR 66 0), (4, aR 67 0), (5, aI l5), (6, aI v4), (7, aI v7)]) (st' := [aI v4, aI v10]) (cs' := []) (fun _ => rfl) al0 ?_
  refine l_icmp_eq k334 rfl (fun c => ?_) (fun c => ?_)
  · replace h := if_t c h
    refine l_sg k334 1 (pc' := 2067) (ls' := [(0, aR 68 0), (1, aR 0 0), (2, aR 48 0), (3, aR 66 0), (4, aR 67 0), (5, aI l5), (6, aI v4), (7, aI v7)]) (st' := [aI v4]) (cs' := []) (fun _ => rfl) al0 ?_
    refine l_if_ne k334 rfl (fun c => ?_) (fun c => ?_)
    · replace h := if_f c h
      refine l_sg k334 2 (pc' := 2736) (ls' := [(0, aR 68 0), (1, aR 0 0), (2, aR 48 0), (3, aR 66 0), (4, aR 67 0), (5, aI (l5 + (nI 6))), (6, aI v4), (7, aI v7)]) (st' := []) (cs' := []) (fun _ => rfl) al0 ?_
      refine l_sg k334 1 (pc' := 28) (ls' := [(0, aR 68 0), (1, aR 0 0), (2, aR 48 0), (3, aR 66 0), (4, aR 67 0), (5, aI (l5 + (nI 6))), (6, aI v4), (7, aI v7)]) (st' := []) (cs' := []) (fun _ => rfl) al0 ?_
      refine l_ls [(0, aR 68 0), (1, aR 0 0), (2, aR 48 0), (3, aR 66 0), (4, aR 67 0), (5, aI (l5 + (nI 6)))] (lq_c rfl (lq_c rfl (lq_c rfl (lq_c rfl (lq_c rfl (lq_c rfl lq_n)))))) ?_
      obtain rfl := Option.some.inj h
      exact l_mono (hi _ _ rfl)
    · replace h := if_t c h
      refine l_sg k334 6 (pc' := 2077) (ls' := [(0, aR 68 0), (1, aR 0 0), (2, aR 48 0), (3, aR 66 0), (4, aR 67 0), (5, aI l5), (6, aI v4), (7, aI v7)]) (st' := [aI (lg_cmp (gJ Y8.1 66 0 0) ((v7).toInt64))]) (cs' := [vp_in (nI 0) 1]) (fun _ => rfl) (al1 (vin rfl)) ?_
      refine l_if_eq k334 rfl (fun c => ?_) (fun c => ?_)
      · replace h := if_t c h
        refine l_sg k334 2 (pc' := 2736) (ls' := [(0, aR 68 0), (1, aR 0 0), (2, aR 48 0), (3, aR 66 0), (4, aR 67 0), (5, aI (l5 + (nI 6))), (6, aI v4), (7, aI v7)]) (st' := []) (cs' := []) (fun _ => rfl) al0 ?_
        refine l_sg k334 1 (pc' := 28) (ls' := [(0, aR 68 0), (1, aR 0 0), (2, aR 48 0), (3, aR 66 0), (4, aR 67 0), (5, aI (l5 + (nI 6))), (6, aI v4), (7, aI v7)]) (st' := []) (cs' := []) (fun _ => rfl) al0 ?_
        refine l_ls [(0, aR 68 0), (1, aR 0 0), (2, aR 48 0), (3, aR 66 0), (4, aR 67 0), (5, aI (l5 + (nI 6)))] (lq_c rfl (lq_c rfl (lq_c rfl (lq_c rfl (lq_c rfl (lq_c rfl lq_n)))))) ?_
        obtain rfl := Option.some.inj h
        exact l_mono (hi _ _ rfl)
      · replace h := if_f c h
        refine l_sg k334 1 (pc' := 2081) (ls' := [(0, aR 68 0), (1, aR 0 0), (2, aR 48 0), (3, aR 66 0), (4, aR 67 0), (5, aI l5), (6, aI v4), (7, aI v7)]) (st' := [aI (nI 0)]) (cs' := []) (fun _ => rfl) al0 ?_
        obtain rfl := Option.some.inj h
        exact l_zreturn k334 (Or.inl rfl) (hr _ rfl)
  · replace h := if_f c h
    refine l_sg k334 1 (pc' := 2064) (ls' := [(0, aR 68 0), (1, aR 0 0), (2, aR 48 0), (3, aR 66 0), (4, aR 67 0), (5, aI l5), (6, aI v4), (7, aI v7)]) (st' := [aI (nI 0)]) (cs' := []) (fun _ => rfl) al0 ?_
    obtain rfl := Option.some.inj h
    exact l_zreturn k334 (Or.inl rfl) (hr _ rfl)
def fn_334_J2085 (L : Nat) (l5 : Int32) (Y : Sm) : Option ((Int32 × Sm) ⊕ (Int32 × Sm)) :=
  ck (inb (l5 + (nI 1)) L) <| bd (fn_324 (gI Y.1 68 0 (ix (l5 + (nI 1)))) Y) fun v4 Y2 => bd (fn_224 (gI Y2.1 68 0 (ix (l5 + (nI 1)))) Y2) fun v7 Y5 => bd (fn_163 Y5) fun v10 Y8 => (if v10 = v4 then (if v4 = (nI 0) then (if (lg_cmp (gJ Y8.1 66 0 0) ((v7).toInt64)) = (nI 0) then some (.inl ((l5 + (nI 6)), Y8)) else some (.inr ((nI 0), Y8))) else some (.inl ((l5 + (nI 6)), Y8))) else some (.inr ((nI 0), Y8)))
set_option maxRecDepth 20000 in
set_option maxHeartbeats 4000000 in
theorem sn_334_J2085 {L B m : Nat} {l5 : Int32} {Y : Sm} {q : (Int32 × Sm) ⊕ (Int32 × Sm)} {P : Option Av → Sm → Prop} {E : Nat → Sm → Prop} (hi : ∀ i Z, q = .inl (i, Z) → Wl L 16 B m 28 [(0, aR 68 0), (1, aR 0 0), (2, aR 48 0), (3, aR 66 0), (4, aR 67 0), (5, aI i)] [] Z P E) (hr : ∀ o : Int32 × Sm, q = .inr o → P (some (aI o.1)) o.2) (h : fn_334_J2085 L l5 Y = some q) : Wl L 16 B (m + 8) 2085 [(0, aR 68 0), (1, aR 0 0), (2, aR 48 0), (3, aR 66 0), (4, aR 67 0), (5, aI l5)] [] Y P E := by
  unfold fn_334_J2085 at h
  obtain ⟨hc1, h⟩ := ck_some h
  refine l_sg k334 7 (pc' := 2093) (ls' := [(0, aR 68 0), (1, aR 0 0), (2, aR 48 0), (3, aR 66 0), (4, aR 67 0), (5, aI l5)]) (st' := [aR 66 0, aI (gI Y.1 68 0 (ix (l5 + (nI 1)))), aR 0 0]) (cs' := [vp_in (l5 + (nI 1)) L]) (fun _ => rfl) (al1 (vin hc1)) ?_
  obtain ⟨v4, Y2, hv3, h⟩ := bd_some h
  refine l_cS1 (n := m + 7) (b' := 1) k334 (sn_324 _ _ _ hv3) rfl (st := []) rfl ?_
  refine l_sg k334 1 (pc' := 2098) (ls' := [(0, aR 68 0), (1, aR 0 0), (2, aR 48 0), (3, aR 66 0), (4, aR 67 0), (5, aI l5), (6, aI v4)]) (st' := []) (cs' := []) (fun _ => rfl) al0 ?_
  refine l_sg k334 6 (pc' := 2105) (ls' := [(0, aR 68 0), (1, aR 0 0), (2, aR 48 0), (3, aR 66 0), (4, aR 67 0), (5, aI l5), (6, aI v4)]) (st' := [aI (gI Y2.1 68 0 (ix (l5 + (nI 1)))), aR 48 0]) (cs' := [vp_in (l5 + (nI 1)) L]) (fun _ => rfl) (al1 (vin hc1)) ?_
  obtain ⟨v7, Y5, hv6, h⟩ := bd_some h
  refine l_cV1 (n := m + 7) (b' := 0) k334 (sn_224 _ _ _ hv6) rfl (st := []) rfl ?_
  refine l_sg k334 1 (pc' := 2110) (ls' := [(0, aR 68 0), (1, aR 0 0), (2, aR 48 0), (3, aR 66 0), (4, aR 67 0), (5, aI l5), (6, aI v4), (7, aI v7)]) (st' := []) (cs' := []) (fun _ => rfl) al0 ?_
  refine l_sg k334 1 (pc' := 2111) (ls' := [(0, aR 68 0), (1, aR 0 0), (2, aR 48 0), (3, aR 66 0), (4, aR 67 0), (5, aI l5), (6, aI v4), (7, aI v7)]) (st' := [aR 48 0]) (cs' := []) (fun _ => rfl) al0 ?_
  obtain ⟨v10, Y8, hv9, h⟩ := bd_some h
  refine l_cV1 (n := m + 7) (b' := 0) k334 (sn_163  _ _ hv9) rfl (st := []) rfl ?_
  refine l_sg k334 1 (pc' := 2116) (ls' := [(0, aR 68 0), (1, aR 0 0), (2, aR 48 0), (3, aR 66 0), (4, aR 67 0), (5, aI l5), (6, aI v4), (7, aI v7)]) (st' := [aI v4, aI v10]) (cs' := []) (fun _ => rfl) al0 ?_
  refine l_icmp_eq k334 rfl (fun c => ?_) (fun c => ?_)
  · replace h := if_t c h
    refine l_sg k334 1 (pc' := 2123) (ls' := [(0, aR 68 0), (1, aR 0 0), (2, aR 48 0), (3, aR 66 0), (4, aR 67 0), (5, aI l5), (6, aI v4), (7, aI v7)]) (st' := [aI v4]) (cs' := []) (fun _ => rfl) al0 ?_
    refine l_if_ne k334 rfl (fun c => ?_) (fun c => ?_)
    · replace h := if_f c h
      refine l_sg k334 2 (pc' := 2736) (ls' := [(0, aR 68 0), (1, aR 0 0), (2, aR 48 0), (3, aR 66 0), (4, aR 67 0), (5, aI (l5 + (nI 6))), (6, aI v4), (7, aI v7)]) (st' := []) (cs' := []) (fun _ => rfl) al0 ?_
      refine l_sg k334 1 (pc' := 28) (ls' := [(0, aR 68 0), (1, aR 0 0), (2, aR 48 0), (3, aR 66 0), (4, aR 67 0), (5, aI (l5 + (nI 6))), (6, aI v4), (7, aI v7)]) (st' := []) (cs' := []) (fun _ => rfl) al0 ?_
      refine l_ls [(0, aR 68 0), (1, aR 0 0), (2, aR 48 0), (3, aR 66 0), (4, aR 67 0), (5, aI (l5 + (nI 6)))] (lq_c rfl (lq_c rfl (lq_c rfl (lq_c rfl (lq_c rfl (lq_c rfl lq_n)))))) ?_
      obtain rfl := Option.some.inj h
      exact l_mono (hi _ _ rfl)
    · replace h := if_t c h
      refine l_sg k334 6 (pc' := 2133) (ls' := [(0, aR 68 0), (1, aR 0 0), (2, aR 48 0), (3, aR 66 0), (4, aR 67 0), (5, aI l5), (6, aI v4), (7, aI v7)]) (st' := [aI (lg_cmp (gJ Y8.1 66 0 0) ((v7).toInt64))]) (cs' := [vp_in (nI 0) 1]) (fun _ => rfl) (al1 (vin rfl)) ?_
      refine l_if_eq k334 rfl (fun c => ?_) (fun c => ?_)
      · replace h := if_t c h
        refine l_sg k334 2 (pc' := 2736) (ls' := [(0, aR 68 0), (1, aR 0 0), (2, aR 48 0), (3, aR 66 0), (4, aR 67 0), (5, aI (l5 + (nI 6))), (6, aI v4), (7, aI v7)]) (st' := []) (cs' := []) (fun _ => rfl) al0 ?_
        refine l_sg k334 1 (pc' := 28) (ls' := [(0, aR 68 0), (1, aR 0 0), (2, aR 48 0), (3, aR 66 0), (4, aR 67 0), (5, aI (l5 + (nI 6))), (6, aI v4), (7, aI v7)]) (st' := []) (cs' := []) (fun _ => rfl) al0 ?_
        refine l_ls [(0, aR 68 0), (1, aR 0 0), (2, aR 48 0), (3, aR 66 0), (4, aR 67 0), (5, aI (l5 + (nI 6)))] (lq_c rfl (lq_c rfl (lq_c rfl (lq_c rfl (lq_c rfl (lq_c rfl lq_n)))))) ?_
        obtain rfl := Option.some.inj h
        exact l_mono (hi _ _ rfl)
      · replace h := if_f c h
        refine l_sg k334 1 (pc' := 2137) (ls' := [(0, aR 68 0), (1, aR 0 0), (2, aR 48 0), (3, aR 66 0), (4, aR 67 0), (5, aI l5), (6, aI v4), (7, aI v7)]) (st' := [aI (nI 0)]) (cs' := []) (fun _ => rfl) al0 ?_
        obtain rfl := Option.some.inj h
        exact l_zreturn k334 (Or.inl rfl) (hr _ rfl)
  · replace h := if_f c h
    refine l_sg k334 1 (pc' := 2120) (ls' := [(0, aR 68 0), (1, aR 0 0), (2, aR 48 0), (3, aR 66 0), (4, aR 67 0), (5, aI l5), (6, aI v4), (7, aI v7)]) (st' := [aI (nI 0)]) (cs' := []) (fun _ => rfl) al0 ?_
    obtain rfl := Option.some.inj h
    exact l_zreturn k334 (Or.inl rfl) (hr _ rfl)
def fn_334_J2141 (L : Nat) (l5 : Int32) (Y : Sm) : Option ((Int32 × Sm) ⊕ (Int32 × Sm)) :=
  ck (inb (l5 + (nI 1)) L) <| ck (inb (l5 + (nI 2)) L) <| bd (fn_325 (gI Y.1 68 0 (ix (l5 + (nI 1)))) (gI Y.1 68 0 (ix (l5 + (nI 2)))) Y) fun v5 Y3 => bd (fn_225 (gI Y3.1 68 0 (ix (l5 + (nI 1)))) (gI Y3.1 68 0 (ix (l5 + (nI 2)))) Y3) fun v8 Y6 => bd (fn_163 Y6) fun v11 Y9 => (if v11 = v5 then (if v5 = (nI 0) then (if (lg_cmp (gJ Y9.1 66 0 0) ((v8).toInt64)) = (nI 0) then some (.inl ((l5 + (nI 6)), Y9)) else some (.inr ((nI 0), Y9))) else some (.inl ((l5 + (nI 6)), Y9))) else some (.inr ((nI 0), Y9)))
set_option maxRecDepth 20000 in
set_option maxHeartbeats 4000000 in
theorem sn_334_J2141 {L B m : Nat} {l5 : Int32} {Y : Sm} {q : (Int32 × Sm) ⊕ (Int32 × Sm)} {P : Option Av → Sm → Prop} {E : Nat → Sm → Prop} (hi : ∀ i Z, q = .inl (i, Z) → Wl L 16 B m 28 [(0, aR 68 0), (1, aR 0 0), (2, aR 48 0), (3, aR 66 0), (4, aR 67 0), (5, aI i)] [] Z P E) (hr : ∀ o : Int32 × Sm, q = .inr o → P (some (aI o.1)) o.2) (h : fn_334_J2141 L l5 Y = some q) : Wl L 16 B (m + 8) 2141 [(0, aR 68 0), (1, aR 0 0), (2, aR 48 0), (3, aR 66 0), (4, aR 67 0), (5, aI l5)] [] Y P E := by
  unfold fn_334_J2141 at h
  obtain ⟨hc1, h⟩ := ck_some h
  refine l_sg k334 8 (pc' := 2151) (ls' := [(0, aR 68 0), (1, aR 0 0), (2, aR 48 0), (3, aR 66 0), (4, aR 67 0), (5, aI l5)]) (st' := [aI l5, aR 68 0, aI (gI Y.1 68 0 (ix (l5 + (nI 1)))), aR 0 0]) (cs' := [vp_in (l5 + (nI 1)) L]) (fun _ => rfl) (al1 (vin hc1)) ?_
  obtain ⟨hc2, h⟩ := ck_some h
  refine l_sg k334 4 (pc' := 2155) (ls' := [(0, aR 68 0), (1, aR 0 0), (2, aR 48 0), (3, aR 66 0), (4, aR 67 0), (5, aI l5)]) (st' := [aR 66 0, aI (gI Y.1 68 0 (ix (l5 + (nI 2)))), aI (gI Y.1 68 0 (ix (l5 + (nI 1)))), aR 0 0]) (cs' := [vp_in (l5 + (nI 2)) L]) (fun _ => rfl) (al1 (vin hc2)) ?_
  obtain ⟨v5, Y3, hv4, h⟩ := bd_some h
  refine l_cS1 (n := m + 6) (b' := 2) k334 (sn_325 _ _ _ _ hv4) rfl (st := []) rfl ?_
  refine l_sg k334 1 (pc' := 2160) (ls' := [(0, aR 68 0), (1, aR 0 0), (2, aR 48 0), (3, aR 66 0), (4, aR 67 0), (5, aI l5), (6, aI v5)]) (st' := []) (cs' := []) (fun _ => rfl) al0 ?_
  refine l_sg k334 8 (pc' := 2170) (ls' := [(0, aR 68 0), (1, aR 0 0), (2, aR 48 0), (3, aR 66 0), (4, aR 67 0), (5, aI l5), (6, aI v5)]) (st' := [aI l5, aR 68 0, aI (gI Y3.1 68 0 (ix (l5 + (nI 1)))), aR 48 0]) (cs' := [vp_in (l5 + (nI 1)) L]) (fun _ => rfl) (al1 (vin hc1)) ?_
  refine l_sg k334 3 (pc' := 2173) (ls' := [(0, aR 68 0), (1, aR 0 0), (2, aR 48 0), (3, aR 66 0), (4, aR 67 0), (5, aI l5), (6, aI v5)]) (st' := [aI (gI Y3.1 68 0 (ix (l5 + (nI 2)))), aI (gI Y3.1 68 0 (ix (l5 + (nI 1)))), aR 48 0]) (cs' := [vp_in (l5 + (nI 2)) L]) (fun _ => rfl) (al1 (vin hc2)) ?_
  obtain ⟨v8, Y6, hv7, h⟩ := bd_some h
  refine l_cV1 (n := m + 6) (b' := 0) k334 (sn_225 _ _ _ _ hv7) rfl (st := []) rfl ?_
  refine l_sg k334 1 (pc' := 2178) (ls' := [(0, aR 68 0), (1, aR 0 0), (2, aR 48 0), (3, aR 66 0), (4, aR 67 0), (5, aI l5), (6, aI v5), (7, aI v8)]) (st' := []) (cs' := []) (fun _ => rfl) al0 ?_
  refine l_sg k334 1 (pc' := 2179) (ls' := [(0, aR 68 0), (1, aR 0 0), (2, aR 48 0), (3, aR 66 0), (4, aR 67 0), (5, aI l5), (6, aI v5), (7, aI v8)]) (st' := [aR 48 0]) (cs' := []) (fun _ => rfl) al0 ?_
  obtain ⟨v11, Y9, hv10, h⟩ := bd_some h
  refine l_cV1 (n := m + 6) (b' := 0) k334 (sn_163  _ _ hv10) rfl (st := []) rfl ?_
  refine l_sg k334 1 (pc' := 2184) (ls' := [(0, aR 68 0), (1, aR 0 0), (2, aR 48 0), (3, aR 66 0), (4, aR 67 0), (5, aI l5), (6, aI v5), (7, aI v8)]) (st' := [aI v5, aI v11]) (cs' := []) (fun _ => rfl) al0 ?_
  refine l_icmp_eq k334 rfl (fun c => ?_) (fun c => ?_)
  · replace h := if_t c h
    refine l_sg k334 1 (pc' := 2191) (ls' := [(0, aR 68 0), (1, aR 0 0), (2, aR 48 0), (3, aR 66 0), (4, aR 67 0), (5, aI l5), (6, aI v5), (7, aI v8)]) (st' := [aI v5]) (cs' := []) (fun _ => rfl) al0 ?_
    refine l_if_ne k334 rfl (fun c => ?_) (fun c => ?_)
    · replace h := if_f c h
      refine l_sg k334 2 (pc' := 2736) (ls' := [(0, aR 68 0), (1, aR 0 0), (2, aR 48 0), (3, aR 66 0), (4, aR 67 0), (5, aI (l5 + (nI 6))), (6, aI v5), (7, aI v8)]) (st' := []) (cs' := []) (fun _ => rfl) al0 ?_
      refine l_sg k334 1 (pc' := 28) (ls' := [(0, aR 68 0), (1, aR 0 0), (2, aR 48 0), (3, aR 66 0), (4, aR 67 0), (5, aI (l5 + (nI 6))), (6, aI v5), (7, aI v8)]) (st' := []) (cs' := []) (fun _ => rfl) al0 ?_
      refine l_ls [(0, aR 68 0), (1, aR 0 0), (2, aR 48 0), (3, aR 66 0), (4, aR 67 0), (5, aI (l5 + (nI 6)))] (lq_c rfl (lq_c rfl (lq_c rfl (lq_c rfl (lq_c rfl (lq_c rfl lq_n)))))) ?_
      obtain rfl := Option.some.inj h
      exact l_mono (hi _ _ rfl)
    · replace h := if_t c h
      refine l_sg k334 6 (pc' := 2201) (ls' := [(0, aR 68 0), (1, aR 0 0), (2, aR 48 0), (3, aR 66 0), (4, aR 67 0), (5, aI l5), (6, aI v5), (7, aI v8)]) (st' := [aI (lg_cmp (gJ Y9.1 66 0 0) ((v8).toInt64))]) (cs' := [vp_in (nI 0) 1]) (fun _ => rfl) (al1 (vin rfl)) ?_
      refine l_if_eq k334 rfl (fun c => ?_) (fun c => ?_)
      · replace h := if_t c h
        refine l_sg k334 2 (pc' := 2736) (ls' := [(0, aR 68 0), (1, aR 0 0), (2, aR 48 0), (3, aR 66 0), (4, aR 67 0), (5, aI (l5 + (nI 6))), (6, aI v5), (7, aI v8)]) (st' := []) (cs' := []) (fun _ => rfl) al0 ?_
        refine l_sg k334 1 (pc' := 28) (ls' := [(0, aR 68 0), (1, aR 0 0), (2, aR 48 0), (3, aR 66 0), (4, aR 67 0), (5, aI (l5 + (nI 6))), (6, aI v5), (7, aI v8)]) (st' := []) (cs' := []) (fun _ => rfl) al0 ?_
        refine l_ls [(0, aR 68 0), (1, aR 0 0), (2, aR 48 0), (3, aR 66 0), (4, aR 67 0), (5, aI (l5 + (nI 6)))] (lq_c rfl (lq_c rfl (lq_c rfl (lq_c rfl (lq_c rfl (lq_c rfl lq_n)))))) ?_
        obtain rfl := Option.some.inj h
        exact l_mono (hi _ _ rfl)
      · replace h := if_f c h
        refine l_sg k334 1 (pc' := 2205) (ls' := [(0, aR 68 0), (1, aR 0 0), (2, aR 48 0), (3, aR 66 0), (4, aR 67 0), (5, aI l5), (6, aI v5), (7, aI v8)]) (st' := [aI (nI 0)]) (cs' := []) (fun _ => rfl) al0 ?_
        obtain rfl := Option.some.inj h
        exact l_zreturn k334 (Or.inl rfl) (hr _ rfl)
  · replace h := if_f c h
    refine l_sg k334 1 (pc' := 2188) (ls' := [(0, aR 68 0), (1, aR 0 0), (2, aR 48 0), (3, aR 66 0), (4, aR 67 0), (5, aI l5), (6, aI v5), (7, aI v8)]) (st' := [aI (nI 0)]) (cs' := []) (fun _ => rfl) al0 ?_
    obtain rfl := Option.some.inj h
    exact l_zreturn k334 (Or.inl rfl) (hr _ rfl)
def fn_334_J2209 (L : Nat) (l5 : Int32) (Y : Sm) : Option ((Int32 × Sm) ⊕ (Int32 × Sm)) :=
  bd (fn_326 Y) fun v3 Y1 => bd (fn_173 Y1) fun v6 Y4 => bd (fn_163 Y4) fun v9 Y7 => (if v9 = v3 then (if v3 = (nI 0) then (if (lg_cmp (gJ Y7.1 66 0 0) ((v6).toInt64)) = (nI 0) then some (.inl ((l5 + (nI 6)), Y7)) else some (.inr ((nI 0), Y7))) else some (.inl ((l5 + (nI 6)), Y7))) else some (.inr ((nI 0), Y7)))
set_option maxRecDepth 20000 in
set_option maxHeartbeats 4000000 in
theorem sn_334_J2209 {L B m : Nat} {l5 : Int32} {Y : Sm} {q : (Int32 × Sm) ⊕ (Int32 × Sm)} {P : Option Av → Sm → Prop} {E : Nat → Sm → Prop} (hi : ∀ i Z, q = .inl (i, Z) → Wl L 16 B m 28 [(0, aR 68 0), (1, aR 0 0), (2, aR 48 0), (3, aR 66 0), (4, aR 67 0), (5, aI i)] [] Z P E) (hr : ∀ o : Int32 × Sm, q = .inr o → P (some (aI o.1)) o.2) (h : fn_334_J2209 L l5 Y = some q) : Wl L 16 B (m + 8) 2209 [(0, aR 68 0), (1, aR 0 0), (2, aR 48 0), (3, aR 66 0), (4, aR 67 0), (5, aI l5)] [] Y P E := by
  unfold fn_334_J2209 at h
  refine l_sg k334 2 (pc' := 2211) (ls' := [(0, aR 68 0), (1, aR 0 0), (2, aR 48 0), (3, aR 66 0), (4, aR 67 0), (5, aI l5)]) (st' := [aR 66 0, aR 0 0]) (cs' := []) (fun _ => rfl) al0 ?_
  obtain ⟨v3, Y1, hv2, h⟩ := bd_some h
  refine l_cS1 (n := m + 7) (b' := 1) k334 (sn_326  _ _ hv2) rfl (st := []) rfl ?_
  refine l_sg k334 1 (pc' := 2216) (ls' := [(0, aR 68 0), (1, aR 0 0), (2, aR 48 0), (3, aR 66 0), (4, aR 67 0), (5, aI l5), (6, aI v3)]) (st' := []) (cs' := []) (fun _ => rfl) al0 ?_
  refine l_sg k334 1 (pc' := 2217) (ls' := [(0, aR 68 0), (1, aR 0 0), (2, aR 48 0), (3, aR 66 0), (4, aR 67 0), (5, aI l5), (6, aI v3)]) (st' := [aR 48 0]) (cs' := []) (fun _ => rfl) al0 ?_
  obtain ⟨v6, Y4, hv5, h⟩ := bd_some h
  refine l_cV1 (n := m + 7) (b' := 0) k334 (sn_173  _ _ hv5) rfl (st := []) rfl ?_
  refine l_sg k334 1 (pc' := 2222) (ls' := [(0, aR 68 0), (1, aR 0 0), (2, aR 48 0), (3, aR 66 0), (4, aR 67 0), (5, aI l5), (6, aI v3), (7, aI v6)]) (st' := []) (cs' := []) (fun _ => rfl) al0 ?_
  refine l_sg k334 1 (pc' := 2223) (ls' := [(0, aR 68 0), (1, aR 0 0), (2, aR 48 0), (3, aR 66 0), (4, aR 67 0), (5, aI l5), (6, aI v3), (7, aI v6)]) (st' := [aR 48 0]) (cs' := []) (fun _ => rfl) al0 ?_
  obtain ⟨v9, Y7, hv8, h⟩ := bd_some h
  refine l_cV1 (n := m + 7) (b' := 0) k334 (sn_163  _ _ hv8) rfl (st := []) rfl ?_
  refine l_sg k334 1 (pc' := 2228) (ls' := [(0, aR 68 0), (1, aR 0 0), (2, aR 48 0), (3, aR 66 0), (4, aR 67 0), (5, aI l5), (6, aI v3), (7, aI v6)]) (st' := [aI v3, aI v9]) (cs' := []) (fun _ => rfl) al0 ?_
  refine l_icmp_eq k334 rfl (fun c => ?_) (fun c => ?_)
  · replace h := if_t c h
    refine l_sg k334 1 (pc' := 2235) (ls' := [(0, aR 68 0), (1, aR 0 0), (2, aR 48 0), (3, aR 66 0), (4, aR 67 0), (5, aI l5), (6, aI v3), (7, aI v6)]) (st' := [aI v3]) (cs' := []) (fun _ => rfl) al0 ?_
    refine l_if_ne k334 rfl (fun c => ?_) (fun c => ?_)
    · replace h := if_f c h
      refine l_sg k334 2 (pc' := 2736) (ls' := [(0, aR 68 0), (1, aR 0 0), (2, aR 48 0), (3, aR 66 0), (4, aR 67 0), (5, aI (l5 + (nI 6))), (6, aI v3), (7, aI v6)]) (st' := []) (cs' := []) (fun _ => rfl) al0 ?_
      refine l_sg k334 1 (pc' := 28) (ls' := [(0, aR 68 0), (1, aR 0 0), (2, aR 48 0), (3, aR 66 0), (4, aR 67 0), (5, aI (l5 + (nI 6))), (6, aI v3), (7, aI v6)]) (st' := []) (cs' := []) (fun _ => rfl) al0 ?_
      refine l_ls [(0, aR 68 0), (1, aR 0 0), (2, aR 48 0), (3, aR 66 0), (4, aR 67 0), (5, aI (l5 + (nI 6)))] (lq_c rfl (lq_c rfl (lq_c rfl (lq_c rfl (lq_c rfl (lq_c rfl lq_n)))))) ?_
      obtain rfl := Option.some.inj h
      exact l_mono (hi _ _ rfl)
    · replace h := if_t c h
      refine l_sg k334 6 (pc' := 2245) (ls' := [(0, aR 68 0), (1, aR 0 0), (2, aR 48 0), (3, aR 66 0), (4, aR 67 0), (5, aI l5), (6, aI v3), (7, aI v6)]) (st' := [aI (lg_cmp (gJ Y7.1 66 0 0) ((v6).toInt64))]) (cs' := [vp_in (nI 0) 1]) (fun _ => rfl) (al1 (vin rfl)) ?_
      refine l_if_eq k334 rfl (fun c => ?_) (fun c => ?_)
      · replace h := if_t c h
        refine l_sg k334 2 (pc' := 2736) (ls' := [(0, aR 68 0), (1, aR 0 0), (2, aR 48 0), (3, aR 66 0), (4, aR 67 0), (5, aI (l5 + (nI 6))), (6, aI v3), (7, aI v6)]) (st' := []) (cs' := []) (fun _ => rfl) al0 ?_
        refine l_sg k334 1 (pc' := 28) (ls' := [(0, aR 68 0), (1, aR 0 0), (2, aR 48 0), (3, aR 66 0), (4, aR 67 0), (5, aI (l5 + (nI 6))), (6, aI v3), (7, aI v6)]) (st' := []) (cs' := []) (fun _ => rfl) al0 ?_
        refine l_ls [(0, aR 68 0), (1, aR 0 0), (2, aR 48 0), (3, aR 66 0), (4, aR 67 0), (5, aI (l5 + (nI 6)))] (lq_c rfl (lq_c rfl (lq_c rfl (lq_c rfl (lq_c rfl (lq_c rfl lq_n)))))) ?_
        obtain rfl := Option.some.inj h
        exact l_mono (hi _ _ rfl)
      · replace h := if_f c h
        refine l_sg k334 1 (pc' := 2249) (ls' := [(0, aR 68 0), (1, aR 0 0), (2, aR 48 0), (3, aR 66 0), (4, aR 67 0), (5, aI l5), (6, aI v3), (7, aI v6)]) (st' := [aI (nI 0)]) (cs' := []) (fun _ => rfl) al0 ?_
        obtain rfl := Option.some.inj h
        exact l_zreturn k334 (Or.inl rfl) (hr _ rfl)
  · replace h := if_f c h
    refine l_sg k334 1 (pc' := 2232) (ls' := [(0, aR 68 0), (1, aR 0 0), (2, aR 48 0), (3, aR 66 0), (4, aR 67 0), (5, aI l5), (6, aI v3), (7, aI v6)]) (st' := [aI (nI 0)]) (cs' := []) (fun _ => rfl) al0 ?_
    obtain rfl := Option.some.inj h
    exact l_zreturn k334 (Or.inl rfl) (hr _ rfl)
def fn_334_J2253 (L : Nat) (l5 : Int32) (Y : Sm) : Option ((Int32 × Sm) ⊕ (Int32 × Sm)) :=
  ck (inb (l5 + (nI 1)) L) <| ck (inb (l5 + (nI 2)) L) <| bd (fn_327 (gI Y.1 68 0 (ix (l5 + (nI 1)))) (gI Y.1 68 0 (ix (l5 + (nI 2)))) Y) fun v5 Y3 => bd (fn_259 (gI Y3.1 68 0 (ix (l5 + (nI 1)))) (gI Y3.1 68 0 (ix (l5 + (nI 2)))) Y3) fun v8 Y6 => bd (fn_163 Y6) fun v11 Y9 => (if v11 = v5 then (if v5 = (nI 0) then (if (lg_cmp (gJ Y9.1 66 0 0) ((v8).toInt64)) = (nI 0) then some (.inl ((l5 + (nI 6)), Y9)) else some (.inr ((nI 0), Y9))) else some (.inl ((l5 + (nI 6)), Y9))) else some (.inr ((nI 0), Y9)))
set_option maxRecDepth 20000 in
set_option maxHeartbeats 4000000 in
theorem sn_334_J2253 {L B m : Nat} {l5 : Int32} {Y : Sm} {q : (Int32 × Sm) ⊕ (Int32 × Sm)} {P : Option Av → Sm → Prop} {E : Nat → Sm → Prop} (hi : ∀ i Z, q = .inl (i, Z) → Wl L 16 B m 28 [(0, aR 68 0), (1, aR 0 0), (2, aR 48 0), (3, aR 66 0), (4, aR 67 0), (5, aI i)] [] Z P E) (hr : ∀ o : Int32 × Sm, q = .inr o → P (some (aI o.1)) o.2) (h : fn_334_J2253 L l5 Y = some q) : Wl L 16 B (m + 8) 2253 [(0, aR 68 0), (1, aR 0 0), (2, aR 48 0), (3, aR 66 0), (4, aR 67 0), (5, aI l5)] [] Y P E := by
  unfold fn_334_J2253 at h
  obtain ⟨hc1, h⟩ := ck_some h
  refine l_sg k334 8 (pc' := 2263) (ls' := [(0, aR 68 0), (1, aR 0 0), (2, aR 48 0), (3, aR 66 0), (4, aR 67 0), (5, aI l5)]) (st' := [aI l5, aR 68 0, aI (gI Y.1 68 0 (ix (l5 + (nI 1)))), aR 0 0]) (cs' := [vp_in (l5 + (nI 1)) L]) (fun _ => rfl) (al1 (vin hc1)) ?_
  obtain ⟨hc2, h⟩ := ck_some h
  refine l_sg k334 4 (pc' := 2267) (ls' := [(0, aR 68 0), (1, aR 0 0), (2, aR 48 0), (3, aR 66 0), (4, aR 67 0), (5, aI l5)]) (st' := [aR 66 0, aI (gI Y.1 68 0 (ix (l5 + (nI 2)))), aI (gI Y.1 68 0 (ix (l5 + (nI 1)))), aR 0 0]) (cs' := [vp_in (l5 + (nI 2)) L]) (fun _ => rfl) (al1 (vin hc2)) ?_
  obtain ⟨v5, Y3, hv4, h⟩ := bd_some h
  refine l_cS1 (n := m + 6) (b' := 2) k334 (sn_327 _ _ _ _ hv4) rfl (st := []) rfl ?_
  refine l_sg k334 1 (pc' := 2272) (ls' := [(0, aR 68 0), (1, aR 0 0), (2, aR 48 0), (3, aR 66 0), (4, aR 67 0), (5, aI l5), (6, aI v5)]) (st' := []) (cs' := []) (fun _ => rfl) al0 ?_
  refine l_sg k334 8 (pc' := 2282) (ls' := [(0, aR 68 0), (1, aR 0 0), (2, aR 48 0), (3, aR 66 0), (4, aR 67 0), (5, aI l5), (6, aI v5)]) (st' := [aI l5, aR 68 0, aI (gI Y3.1 68 0 (ix (l5 + (nI 1)))), aR 48 0]) (cs' := [vp_in (l5 + (nI 1)) L]) (fun _ => rfl) (al1 (vin hc1)) ?_
  refine l_sg k334 3 (pc' := 2285) (ls' := [(0, aR 68 0), (1, aR 0 0), (2, aR 48 0), (3, aR 66 0), (4, aR 67 0), (5, aI l5), (6, aI v5)]) (st' := [aI (gI Y3.1 68 0 (ix (l5 + (nI 2)))), aI (gI Y3.1 68 0 (ix (l5 + (nI 1)))), aR 48 0]) (cs' := [vp_in (l5 + (nI 2)) L]) (fun _ => rfl) (al1 (vin hc2)) ?_
  obtain ⟨v8, Y6, hv7, h⟩ := bd_some h
  refine l_cV1 (n := m + 6) (b' := 0) k334 (sn_259 _ _ _ _ hv7) rfl (st := []) rfl ?_
  refine l_sg k334 1 (pc' := 2290) (ls' := [(0, aR 68 0), (1, aR 0 0), (2, aR 48 0), (3, aR 66 0), (4, aR 67 0), (5, aI l5), (6, aI v5), (7, aI v8)]) (st' := []) (cs' := []) (fun _ => rfl) al0 ?_
  refine l_sg k334 1 (pc' := 2291) (ls' := [(0, aR 68 0), (1, aR 0 0), (2, aR 48 0), (3, aR 66 0), (4, aR 67 0), (5, aI l5), (6, aI v5), (7, aI v8)]) (st' := [aR 48 0]) (cs' := []) (fun _ => rfl) al0 ?_
  obtain ⟨v11, Y9, hv10, h⟩ := bd_some h
  refine l_cV1 (n := m + 6) (b' := 0) k334 (sn_163  _ _ hv10) rfl (st := []) rfl ?_
  refine l_sg k334 1 (pc' := 2296) (ls' := [(0, aR 68 0), (1, aR 0 0), (2, aR 48 0), (3, aR 66 0), (4, aR 67 0), (5, aI l5), (6, aI v5), (7, aI v8)]) (st' := [aI v5, aI v11]) (cs' := []) (fun _ => rfl) al0 ?_
  refine l_icmp_eq k334 rfl (fun c => ?_) (fun c => ?_)
  · replace h := if_t c h
    refine l_sg k334 1 (pc' := 2303) (ls' := [(0, aR 68 0), (1, aR 0 0), (2, aR 48 0), (3, aR 66 0), (4, aR 67 0), (5, aI l5), (6, aI v5), (7, aI v8)]) (st' := [aI v5]) (cs' := []) (fun _ => rfl) al0 ?_
    refine l_if_ne k334 rfl (fun c => ?_) (fun c => ?_)
    · replace h := if_f c h
      refine l_sg k334 2 (pc' := 2736) (ls' := [(0, aR 68 0), (1, aR 0 0), (2, aR 48 0), (3, aR 66 0), (4, aR 67 0), (5, aI (l5 + (nI 6))), (6, aI v5), (7, aI v8)]) (st' := []) (cs' := []) (fun _ => rfl) al0 ?_
      refine l_sg k334 1 (pc' := 28) (ls' := [(0, aR 68 0), (1, aR 0 0), (2, aR 48 0), (3, aR 66 0), (4, aR 67 0), (5, aI (l5 + (nI 6))), (6, aI v5), (7, aI v8)]) (st' := []) (cs' := []) (fun _ => rfl) al0 ?_
      refine l_ls [(0, aR 68 0), (1, aR 0 0), (2, aR 48 0), (3, aR 66 0), (4, aR 67 0), (5, aI (l5 + (nI 6)))] (lq_c rfl (lq_c rfl (lq_c rfl (lq_c rfl (lq_c rfl (lq_c rfl lq_n)))))) ?_
      obtain rfl := Option.some.inj h
      exact l_mono (hi _ _ rfl)
    · replace h := if_t c h
      refine l_sg k334 6 (pc' := 2313) (ls' := [(0, aR 68 0), (1, aR 0 0), (2, aR 48 0), (3, aR 66 0), (4, aR 67 0), (5, aI l5), (6, aI v5), (7, aI v8)]) (st' := [aI (lg_cmp (gJ Y9.1 66 0 0) ((v8).toInt64))]) (cs' := [vp_in (nI 0) 1]) (fun _ => rfl) (al1 (vin rfl)) ?_
      refine l_if_eq k334 rfl (fun c => ?_) (fun c => ?_)
      · replace h := if_t c h
        refine l_sg k334 2 (pc' := 2736) (ls' := [(0, aR 68 0), (1, aR 0 0), (2, aR 48 0), (3, aR 66 0), (4, aR 67 0), (5, aI (l5 + (nI 6))), (6, aI v5), (7, aI v8)]) (st' := []) (cs' := []) (fun _ => rfl) al0 ?_
        refine l_sg k334 1 (pc' := 28) (ls' := [(0, aR 68 0), (1, aR 0 0), (2, aR 48 0), (3, aR 66 0), (4, aR 67 0), (5, aI (l5 + (nI 6))), (6, aI v5), (7, aI v8)]) (st' := []) (cs' := []) (fun _ => rfl) al0 ?_
        refine l_ls [(0, aR 68 0), (1, aR 0 0), (2, aR 48 0), (3, aR 66 0), (4, aR 67 0), (5, aI (l5 + (nI 6)))] (lq_c rfl (lq_c rfl (lq_c rfl (lq_c rfl (lq_c rfl (lq_c rfl lq_n)))))) ?_
        obtain rfl := Option.some.inj h
        exact l_mono (hi _ _ rfl)
      · replace h := if_f c h
        refine l_sg k334 1 (pc' := 2317) (ls' := [(0, aR 68 0), (1, aR 0 0), (2, aR 48 0), (3, aR 66 0), (4, aR 67 0), (5, aI l5), (6, aI v5), (7, aI v8)]) (st' := [aI (nI 0)]) (cs' := []) (fun _ => rfl) al0 ?_
        obtain rfl := Option.some.inj h
        exact l_zreturn k334 (Or.inl rfl) (hr _ rfl)
  · replace h := if_f c h
    refine l_sg k334 1 (pc' := 2300) (ls' := [(0, aR 68 0), (1, aR 0 0), (2, aR 48 0), (3, aR 66 0), (4, aR 67 0), (5, aI l5), (6, aI v5), (7, aI v8)]) (st' := [aI (nI 0)]) (cs' := []) (fun _ => rfl) al0 ?_
    obtain rfl := Option.some.inj h
    exact l_zreturn k334 (Or.inl rfl) (hr _ rfl)
def fn_334_J2321 (L : Nat) (l5 : Int32) (Y : Sm) : Option ((Int32 × Sm) ⊕ (Int32 × Sm)) :=
  ck (inb (l5 + (nI 1)) L) <| ck (inb (l5 + (nI 2)) L) <| bd (fn_328 (gI Y.1 68 0 (ix (l5 + (nI 1)))) (gI Y.1 68 0 (ix (l5 + (nI 2)))) Y) fun v5 Y3 => bd (fn_261 (gI Y3.1 68 0 (ix (l5 + (nI 1)))) (gI Y3.1 68 0 (ix (l5 + (nI 2)))) Y3) fun v8 Y6 => bd (fn_163 Y6) fun v11 Y9 => (if v11 = v5 then (if v5 = (nI 0) then (if (lg_cmp (gJ Y9.1 66 0 0) ((v8).toInt64)) = (nI 0) then some (.inl ((l5 + (nI 6)), Y9)) else some (.inr ((nI 0), Y9))) else some (.inl ((l5 + (nI 6)), Y9))) else some (.inr ((nI 0), Y9)))
set_option maxRecDepth 20000 in
set_option maxHeartbeats 4000000 in
theorem sn_334_J2321 {L B m : Nat} {l5 : Int32} {Y : Sm} {q : (Int32 × Sm) ⊕ (Int32 × Sm)} {P : Option Av → Sm → Prop} {E : Nat → Sm → Prop} (hi : ∀ i Z, q = .inl (i, Z) → Wl L 16 B m 28 [(0, aR 68 0), (1, aR 0 0), (2, aR 48 0), (3, aR 66 0), (4, aR 67 0), (5, aI i)] [] Z P E) (hr : ∀ o : Int32 × Sm, q = .inr o → P (some (aI o.1)) o.2) (h : fn_334_J2321 L l5 Y = some q) : Wl L 16 B (m + 8) 2321 [(0, aR 68 0), (1, aR 0 0), (2, aR 48 0), (3, aR 66 0), (4, aR 67 0), (5, aI l5)] [] Y P E := by
  unfold fn_334_J2321 at h
  obtain ⟨hc1, h⟩ := ck_some h
  refine l_sg k334 8 (pc' := 2331) (ls' := [(0, aR 68 0), (1, aR 0 0), (2, aR 48 0), (3, aR 66 0), (4, aR 67 0), (5, aI l5)]) (st' := [aI l5, aR 68 0, aI (gI Y.1 68 0 (ix (l5 + (nI 1)))), aR 0 0]) (cs' := [vp_in (l5 + (nI 1)) L]) (fun _ => rfl) (al1 (vin hc1)) ?_
  obtain ⟨hc2, h⟩ := ck_some h
  refine l_sg k334 4 (pc' := 2335) (ls' := [(0, aR 68 0), (1, aR 0 0), (2, aR 48 0), (3, aR 66 0), (4, aR 67 0), (5, aI l5)]) (st' := [aR 66 0, aI (gI Y.1 68 0 (ix (l5 + (nI 2)))), aI (gI Y.1 68 0 (ix (l5 + (nI 1)))), aR 0 0]) (cs' := [vp_in (l5 + (nI 2)) L]) (fun _ => rfl) (al1 (vin hc2)) ?_
  obtain ⟨v5, Y3, hv4, h⟩ := bd_some h
  refine l_cS1 (n := m + 6) (b' := 2) k334 (sn_328 _ _ _ _ hv4) rfl (st := []) rfl ?_
  refine l_sg k334 1 (pc' := 2340) (ls' := [(0, aR 68 0), (1, aR 0 0), (2, aR 48 0), (3, aR 66 0), (4, aR 67 0), (5, aI l5), (6, aI v5)]) (st' := []) (cs' := []) (fun _ => rfl) al0 ?_
  refine l_sg k334 8 (pc' := 2350) (ls' := [(0, aR 68 0), (1, aR 0 0), (2, aR 48 0), (3, aR 66 0), (4, aR 67 0), (5, aI l5), (6, aI v5)]) (st' := [aI l5, aR 68 0, aI (gI Y3.1 68 0 (ix (l5 + (nI 1)))), aR 48 0]) (cs' := [vp_in (l5 + (nI 1)) L]) (fun _ => rfl) (al1 (vin hc1)) ?_
  refine l_sg k334 3 (pc' := 2353) (ls' := [(0, aR 68 0), (1, aR 0 0), (2, aR 48 0), (3, aR 66 0), (4, aR 67 0), (5, aI l5), (6, aI v5)]) (st' := [aI (gI Y3.1 68 0 (ix (l5 + (nI 2)))), aI (gI Y3.1 68 0 (ix (l5 + (nI 1)))), aR 48 0]) (cs' := [vp_in (l5 + (nI 2)) L]) (fun _ => rfl) (al1 (vin hc2)) ?_
  obtain ⟨v8, Y6, hv7, h⟩ := bd_some h
  refine l_cV1 (n := m + 6) (b' := 0) k334 (sn_261 _ _ _ _ hv7) rfl (st := []) rfl ?_
  refine l_sg k334 1 (pc' := 2358) (ls' := [(0, aR 68 0), (1, aR 0 0), (2, aR 48 0), (3, aR 66 0), (4, aR 67 0), (5, aI l5), (6, aI v5), (7, aI v8)]) (st' := []) (cs' := []) (fun _ => rfl) al0 ?_
  refine l_sg k334 1 (pc' := 2359) (ls' := [(0, aR 68 0), (1, aR 0 0), (2, aR 48 0), (3, aR 66 0), (4, aR 67 0), (5, aI l5), (6, aI v5), (7, aI v8)]) (st' := [aR 48 0]) (cs' := []) (fun _ => rfl) al0 ?_
  obtain ⟨v11, Y9, hv10, h⟩ := bd_some h
  refine l_cV1 (n := m + 6) (b' := 0) k334 (sn_163  _ _ hv10) rfl (st := []) rfl ?_
  refine l_sg k334 1 (pc' := 2364) (ls' := [(0, aR 68 0), (1, aR 0 0), (2, aR 48 0), (3, aR 66 0), (4, aR 67 0), (5, aI l5), (6, aI v5), (7, aI v8)]) (st' := [aI v5, aI v11]) (cs' := []) (fun _ => rfl) al0 ?_
  refine l_icmp_eq k334 rfl (fun c => ?_) (fun c => ?_)
  · replace h := if_t c h
    refine l_sg k334 1 (pc' := 2371) (ls' := [(0, aR 68 0), (1, aR 0 0), (2, aR 48 0), (3, aR 66 0), (4, aR 67 0), (5, aI l5), (6, aI v5), (7, aI v8)]) (st' := [aI v5]) (cs' := []) (fun _ => rfl) al0 ?_
    refine l_if_ne k334 rfl (fun c => ?_) (fun c => ?_)
    · replace h := if_f c h
      refine l_sg k334 2 (pc' := 2736) (ls' := [(0, aR 68 0), (1, aR 0 0), (2, aR 48 0), (3, aR 66 0), (4, aR 67 0), (5, aI (l5 + (nI 6))), (6, aI v5), (7, aI v8)]) (st' := []) (cs' := []) (fun _ => rfl) al0 ?_
      refine l_sg k334 1 (pc' := 28) (ls' := [(0, aR 68 0), (1, aR 0 0), (2, aR 48 0), (3, aR 66 0), (4, aR 67 0), (5, aI (l5 + (nI 6))), (6, aI v5), (7, aI v8)]) (st' := []) (cs' := []) (fun _ => rfl) al0 ?_
      refine l_ls [(0, aR 68 0), (1, aR 0 0), (2, aR 48 0), (3, aR 66 0), (4, aR 67 0), (5, aI (l5 + (nI 6)))] (lq_c rfl (lq_c rfl (lq_c rfl (lq_c rfl (lq_c rfl (lq_c rfl lq_n)))))) ?_
      obtain rfl := Option.some.inj h
      exact l_mono (hi _ _ rfl)
    · replace h := if_t c h
      refine l_sg k334 6 (pc' := 2381) (ls' := [(0, aR 68 0), (1, aR 0 0), (2, aR 48 0), (3, aR 66 0), (4, aR 67 0), (5, aI l5), (6, aI v5), (7, aI v8)]) (st' := [aI (lg_cmp (gJ Y9.1 66 0 0) ((v8).toInt64))]) (cs' := [vp_in (nI 0) 1]) (fun _ => rfl) (al1 (vin rfl)) ?_
      refine l_if_eq k334 rfl (fun c => ?_) (fun c => ?_)
      · replace h := if_t c h
        refine l_sg k334 2 (pc' := 2736) (ls' := [(0, aR 68 0), (1, aR 0 0), (2, aR 48 0), (3, aR 66 0), (4, aR 67 0), (5, aI (l5 + (nI 6))), (6, aI v5), (7, aI v8)]) (st' := []) (cs' := []) (fun _ => rfl) al0 ?_
        refine l_sg k334 1 (pc' := 28) (ls' := [(0, aR 68 0), (1, aR 0 0), (2, aR 48 0), (3, aR 66 0), (4, aR 67 0), (5, aI (l5 + (nI 6))), (6, aI v5), (7, aI v8)]) (st' := []) (cs' := []) (fun _ => rfl) al0 ?_
        refine l_ls [(0, aR 68 0), (1, aR 0 0), (2, aR 48 0), (3, aR 66 0), (4, aR 67 0), (5, aI (l5 + (nI 6)))] (lq_c rfl (lq_c rfl (lq_c rfl (lq_c rfl (lq_c rfl (lq_c rfl lq_n)))))) ?_
        obtain rfl := Option.some.inj h
        exact l_mono (hi _ _ rfl)
      · replace h := if_f c h
        refine l_sg k334 1 (pc' := 2385) (ls' := [(0, aR 68 0), (1, aR 0 0), (2, aR 48 0), (3, aR 66 0), (4, aR 67 0), (5, aI l5), (6, aI v5), (7, aI v8)]) (st' := [aI (nI 0)]) (cs' := []) (fun _ => rfl) al0 ?_
        obtain rfl := Option.some.inj h
        exact l_zreturn k334 (Or.inl rfl) (hr _ rfl)
  · replace h := if_f c h
    refine l_sg k334 1 (pc' := 2368) (ls' := [(0, aR 68 0), (1, aR 0 0), (2, aR 48 0), (3, aR 66 0), (4, aR 67 0), (5, aI l5), (6, aI v5), (7, aI v8)]) (st' := [aI (nI 0)]) (cs' := []) (fun _ => rfl) al0 ?_
    obtain rfl := Option.some.inj h
    exact l_zreturn k334 (Or.inl rfl) (hr _ rfl)
def fn_334_J2389 (L : Nat) (l5 : Int32) (Y : Sm) : Option ((Int32 × Sm) ⊕ (Int32 × Sm)) :=
  ck (inb (l5 + (nI 1)) L) <| ck (inb (l5 + (nI 2)) L) <| bd (fn_329 (gI Y.1 68 0 (ix (l5 + (nI 1)))) (gI Y.1 68 0 (ix (l5 + (nI 2)))) Y) fun v5 Y3 => bd (fn_263 (gI Y3.1 68 0 (ix (l5 + (nI 1)))) (gI Y3.1 68 0 (ix (l5 + (nI 2)))) Y3) fun v8 Y6 => bd (fn_163 Y6) fun v11 Y9 => (if v11 = v5 then (if v5 = (nI 0) then (if (lg_cmp (gJ Y9.1 66 0 0) ((v8).toInt64)) = (nI 0) then some (.inl ((l5 + (nI 6)), Y9)) else some (.inr ((nI 0), Y9))) else some (.inl ((l5 + (nI 6)), Y9))) else some (.inr ((nI 0), Y9)))
set_option maxRecDepth 20000 in
set_option maxHeartbeats 4000000 in
theorem sn_334_J2389 {L B m : Nat} {l5 : Int32} {Y : Sm} {q : (Int32 × Sm) ⊕ (Int32 × Sm)} {P : Option Av → Sm → Prop} {E : Nat → Sm → Prop} (hi : ∀ i Z, q = .inl (i, Z) → Wl L 16 B m 28 [(0, aR 68 0), (1, aR 0 0), (2, aR 48 0), (3, aR 66 0), (4, aR 67 0), (5, aI i)] [] Z P E) (hr : ∀ o : Int32 × Sm, q = .inr o → P (some (aI o.1)) o.2) (h : fn_334_J2389 L l5 Y = some q) : Wl L 16 B (m + 8) 2389 [(0, aR 68 0), (1, aR 0 0), (2, aR 48 0), (3, aR 66 0), (4, aR 67 0), (5, aI l5)] [] Y P E := by
  unfold fn_334_J2389 at h
  obtain ⟨hc1, h⟩ := ck_some h
  refine l_sg k334 8 (pc' := 2399) (ls' := [(0, aR 68 0), (1, aR 0 0), (2, aR 48 0), (3, aR 66 0), (4, aR 67 0), (5, aI l5)]) (st' := [aI l5, aR 68 0, aI (gI Y.1 68 0 (ix (l5 + (nI 1)))), aR 0 0]) (cs' := [vp_in (l5 + (nI 1)) L]) (fun _ => rfl) (al1 (vin hc1)) ?_
  obtain ⟨hc2, h⟩ := ck_some h
  refine l_sg k334 4 (pc' := 2403) (ls' := [(0, aR 68 0), (1, aR 0 0), (2, aR 48 0), (3, aR 66 0), (4, aR 67 0), (5, aI l5)]) (st' := [aR 66 0, aI (gI Y.1 68 0 (ix (l5 + (nI 2)))), aI (gI Y.1 68 0 (ix (l5 + (nI 1)))), aR 0 0]) (cs' := [vp_in (l5 + (nI 2)) L]) (fun _ => rfl) (al1 (vin hc2)) ?_
  obtain ⟨v5, Y3, hv4, h⟩ := bd_some h
  refine l_cS1 (n := m + 6) (b' := 2) k334 (sn_329 _ _ _ _ hv4) rfl (st := []) rfl ?_
  refine l_sg k334 1 (pc' := 2408) (ls' := [(0, aR 68 0), (1, aR 0 0), (2, aR 48 0), (3, aR 66 0), (4, aR 67 0), (5, aI l5), (6, aI v5)]) (st' := []) (cs' := []) (fun _ => rfl) al0 ?_
  refine l_sg k334 8 (pc' := 2418) (ls' := [(0, aR 68 0), (1, aR 0 0), (2, aR 48 0), (3, aR 66 0), (4, aR 67 0), (5, aI l5), (6, aI v5)]) (st' := [aI l5, aR 68 0, aI (gI Y3.1 68 0 (ix (l5 + (nI 1)))), aR 48 0]) (cs' := [vp_in (l5 + (nI 1)) L]) (fun _ => rfl) (al1 (vin hc1)) ?_
  refine l_sg k334 3 (pc' := 2421) (ls' := [(0, aR 68 0), (1, aR 0 0), (2, aR 48 0), (3, aR 66 0), (4, aR 67 0), (5, aI l5), (6, aI v5)]) (st' := [aI (gI Y3.1 68 0 (ix (l5 + (nI 2)))), aI (gI Y3.1 68 0 (ix (l5 + (nI 1)))), aR 48 0]) (cs' := [vp_in (l5 + (nI 2)) L]) (fun _ => rfl) (al1 (vin hc2)) ?_
  obtain ⟨v8, Y6, hv7, h⟩ := bd_some h
  refine l_cV1 (n := m + 6) (b' := 0) k334 (sn_263 _ _ _ _ hv7) rfl (st := []) rfl ?_
  refine l_sg k334 1 (pc' := 2426) (ls' := [(0, aR 68 0), (1, aR 0 0), (2, aR 48 0), (3, aR 66 0), (4, aR 67 0), (5, aI l5), (6, aI v5), (7, aI v8)]) (st' := []) (cs' := []) (fun _ => rfl) al0 ?_
  refine l_sg k334 1 (pc' := 2427) (ls' := [(0, aR 68 0), (1, aR 0 0), (2, aR 48 0), (3, aR 66 0), (4, aR 67 0), (5, aI l5), (6, aI v5), (7, aI v8)]) (st' := [aR 48 0]) (cs' := []) (fun _ => rfl) al0 ?_
  obtain ⟨v11, Y9, hv10, h⟩ := bd_some h
  refine l_cV1 (n := m + 6) (b' := 0) k334 (sn_163  _ _ hv10) rfl (st := []) rfl ?_
  refine l_sg k334 1 (pc' := 2432) (ls' := [(0, aR 68 0), (1, aR 0 0), (2, aR 48 0), (3, aR 66 0), (4, aR 67 0), (5, aI l5), (6, aI v5), (7, aI v8)]) (st' := [aI v5, aI v11]) (cs' := []) (fun _ => rfl) al0 ?_
  refine l_icmp_eq k334 rfl (fun c => ?_) (fun c => ?_)
  · replace h := if_t c h
    refine l_sg k334 1 (pc' := 2439) (ls' := [(0, aR 68 0), (1, aR 0 0), (2, aR 48 0), (3, aR 66 0), (4, aR 67 0), (5, aI l5), (6, aI v5), (7, aI v8)]) (st' := [aI v5]) (cs' := []) (fun _ => rfl) al0 ?_
    refine l_if_ne k334 rfl (fun c => ?_) (fun c => ?_)
    · replace h := if_f c h
      refine l_sg k334 2 (pc' := 2736) (ls' := [(0, aR 68 0), (1, aR 0 0), (2, aR 48 0), (3, aR 66 0), (4, aR 67 0), (5, aI (l5 + (nI 6))), (6, aI v5), (7, aI v8)]) (st' := []) (cs' := []) (fun _ => rfl) al0 ?_
      refine l_sg k334 1 (pc' := 28) (ls' := [(0, aR 68 0), (1, aR 0 0), (2, aR 48 0), (3, aR 66 0), (4, aR 67 0), (5, aI (l5 + (nI 6))), (6, aI v5), (7, aI v8)]) (st' := []) (cs' := []) (fun _ => rfl) al0 ?_
      refine l_ls [(0, aR 68 0), (1, aR 0 0), (2, aR 48 0), (3, aR 66 0), (4, aR 67 0), (5, aI (l5 + (nI 6)))] (lq_c rfl (lq_c rfl (lq_c rfl (lq_c rfl (lq_c rfl (lq_c rfl lq_n)))))) ?_
      obtain rfl := Option.some.inj h
      exact l_mono (hi _ _ rfl)
    · replace h := if_t c h
      refine l_sg k334 6 (pc' := 2449) (ls' := [(0, aR 68 0), (1, aR 0 0), (2, aR 48 0), (3, aR 66 0), (4, aR 67 0), (5, aI l5), (6, aI v5), (7, aI v8)]) (st' := [aI (lg_cmp (gJ Y9.1 66 0 0) ((v8).toInt64))]) (cs' := [vp_in (nI 0) 1]) (fun _ => rfl) (al1 (vin rfl)) ?_
      refine l_if_eq k334 rfl (fun c => ?_) (fun c => ?_)
      · replace h := if_t c h
        refine l_sg k334 2 (pc' := 2736) (ls' := [(0, aR 68 0), (1, aR 0 0), (2, aR 48 0), (3, aR 66 0), (4, aR 67 0), (5, aI (l5 + (nI 6))), (6, aI v5), (7, aI v8)]) (st' := []) (cs' := []) (fun _ => rfl) al0 ?_
        refine l_sg k334 1 (pc' := 28) (ls' := [(0, aR 68 0), (1, aR 0 0), (2, aR 48 0), (3, aR 66 0), (4, aR 67 0), (5, aI (l5 + (nI 6))), (6, aI v5), (7, aI v8)]) (st' := []) (cs' := []) (fun _ => rfl) al0 ?_
        refine l_ls [(0, aR 68 0), (1, aR 0 0), (2, aR 48 0), (3, aR 66 0), (4, aR 67 0), (5, aI (l5 + (nI 6)))] (lq_c rfl (lq_c rfl (lq_c rfl (lq_c rfl (lq_c rfl (lq_c rfl lq_n)))))) ?_
        obtain rfl := Option.some.inj h
        exact l_mono (hi _ _ rfl)
      · replace h := if_f c h
        refine l_sg k334 1 (pc' := 2453) (ls' := [(0, aR 68 0), (1, aR 0 0), (2, aR 48 0), (3, aR 66 0), (4, aR 67 0), (5, aI l5), (6, aI v5), (7, aI v8)]) (st' := [aI (nI 0)]) (cs' := []) (fun _ => rfl) al0 ?_
        obtain rfl := Option.some.inj h
        exact l_zreturn k334 (Or.inl rfl) (hr _ rfl)
  · replace h := if_f c h
    refine l_sg k334 1 (pc' := 2436) (ls' := [(0, aR 68 0), (1, aR 0 0), (2, aR 48 0), (3, aR 66 0), (4, aR 67 0), (5, aI l5), (6, aI v5), (7, aI v8)]) (st' := [aI (nI 0)]) (cs' := []) (fun _ => rfl) al0 ?_
    obtain rfl := Option.some.inj h
    exact l_zreturn k334 (Or.inl rfl) (hr _ rfl)
def fn_334_J2457 (L : Nat) (l5 : Int32) (Y : Sm) : Option ((Int32 × Sm) ⊕ (Int32 × Sm)) :=
  ck (inb (l5 + (nI 1)) L) <| bd (fn_330 (gI Y.1 68 0 (ix (l5 + (nI 1)))) Y) fun v4 Y2 => bd (fn_264 (gI Y2.1 68 0 (ix (l5 + (nI 1)))) Y2) fun v7 Y5 => bd (fn_163 Y5) fun v10 Y8 => (if v10 = v4 then (if v4 = (nI 0) then (if (lg_cmp (gJ Y8.1 66 0 0) ((v7).toInt64)) = (nI 0) then some (.inl ((l5 + (nI 6)), Y8)) else some (.inr ((nI 0), Y8))) else some (.inl ((l5 + (nI 6)), Y8))) else some (.inr ((nI 0), Y8)))
set_option maxRecDepth 20000 in
set_option maxHeartbeats 4000000 in
theorem sn_334_J2457 {L B m : Nat} {l5 : Int32} {Y : Sm} {q : (Int32 × Sm) ⊕ (Int32 × Sm)} {P : Option Av → Sm → Prop} {E : Nat → Sm → Prop} (hi : ∀ i Z, q = .inl (i, Z) → Wl L 16 B m 28 [(0, aR 68 0), (1, aR 0 0), (2, aR 48 0), (3, aR 66 0), (4, aR 67 0), (5, aI i)] [] Z P E) (hr : ∀ o : Int32 × Sm, q = .inr o → P (some (aI o.1)) o.2) (h : fn_334_J2457 L l5 Y = some q) : Wl L 16 B (m + 8) 2457 [(0, aR 68 0), (1, aR 0 0), (2, aR 48 0), (3, aR 66 0), (4, aR 67 0), (5, aI l5)] [] Y P E := by
  unfold fn_334_J2457 at h
  obtain ⟨hc1, h⟩ := ck_some h
  refine l_sg k334 7 (pc' := 2465) (ls' := [(0, aR 68 0), (1, aR 0 0), (2, aR 48 0), (3, aR 66 0), (4, aR 67 0), (5, aI l5)]) (st' := [aR 66 0, aI (gI Y.1 68 0 (ix (l5 + (nI 1)))), aR 0 0]) (cs' := [vp_in (l5 + (nI 1)) L]) (fun _ => rfl) (al1 (vin hc1)) ?_
  obtain ⟨v4, Y2, hv3, h⟩ := bd_some h
  refine l_cS1 (n := m + 7) (b' := 1) k334 (sn_330 _ _ _ hv3) rfl (st := []) rfl ?_
  refine l_sg k334 1 (pc' := 2470) (ls' := [(0, aR 68 0), (1, aR 0 0), (2, aR 48 0), (3, aR 66 0), (4, aR 67 0), (5, aI l5), (6, aI v4)]) (st' := []) (cs' := []) (fun _ => rfl) al0 ?_
  refine l_sg k334 6 (pc' := 2477) (ls' := [(0, aR 68 0), (1, aR 0 0), (2, aR 48 0), (3, aR 66 0), (4, aR 67 0), (5, aI l5), (6, aI v4)]) (st' := [aI (gI Y2.1 68 0 (ix (l5 + (nI 1)))), aR 48 0]) (cs' := [vp_in (l5 + (nI 1)) L]) (fun _ => rfl) (al1 (vin hc1)) ?_
  obtain ⟨v7, Y5, hv6, h⟩ := bd_some h
  refine l_cV1 (n := m + 7) (b' := 0) k334 (sn_264 _ _ _ hv6) rfl (st := []) rfl ?_
  refine l_sg k334 1 (pc' := 2482) (ls' := [(0, aR 68 0), (1, aR 0 0), (2, aR 48 0), (3, aR 66 0), (4, aR 67 0), (5, aI l5), (6, aI v4), (7, aI v7)]) (st' := []) (cs' := []) (fun _ => rfl) al0 ?_
  refine l_sg k334 1 (pc' := 2483) (ls' := [(0, aR 68 0), (1, aR 0 0), (2, aR 48 0), (3, aR 66 0), (4, aR 67 0), (5, aI l5), (6, aI v4), (7, aI v7)]) (st' := [aR 48 0]) (cs' := []) (fun _ => rfl) al0 ?_
  obtain ⟨v10, Y8, hv9, h⟩ := bd_some h
  refine l_cV1 (n := m + 7) (b' := 0) k334 (sn_163  _ _ hv9) rfl (st := []) rfl ?_
  refine l_sg k334 1 (pc' := 2488) (ls' := [(0, aR 68 0), (1, aR 0 0), (2, aR 48 0), (3, aR 66 0), (4, aR 67 0), (5, aI l5), (6, aI v4), (7, aI v7)]) (st' := [aI v4, aI v10]) (cs' := []) (fun _ => rfl) al0 ?_
  refine l_icmp_eq k334 rfl (fun c => ?_) (fun c => ?_)
  · replace h := if_t c h
    refine l_sg k334 1 (pc' := 2495) (ls' := [(0, aR 68 0), (1, aR 0 0), (2, aR 48 0), (3, aR 66 0), (4, aR 67 0), (5, aI l5), (6, aI v4), (7, aI v7)]) (st' := [aI v4]) (cs' := []) (fun _ => rfl) al0 ?_
    refine l_if_ne k334 rfl (fun c => ?_) (fun c => ?_)
    · replace h := if_f c h
      refine l_sg k334 2 (pc' := 2736) (ls' := [(0, aR 68 0), (1, aR 0 0), (2, aR 48 0), (3, aR 66 0), (4, aR 67 0), (5, aI (l5 + (nI 6))), (6, aI v4), (7, aI v7)]) (st' := []) (cs' := []) (fun _ => rfl) al0 ?_
      refine l_sg k334 1 (pc' := 28) (ls' := [(0, aR 68 0), (1, aR 0 0), (2, aR 48 0), (3, aR 66 0), (4, aR 67 0), (5, aI (l5 + (nI 6))), (6, aI v4), (7, aI v7)]) (st' := []) (cs' := []) (fun _ => rfl) al0 ?_
      refine l_ls [(0, aR 68 0), (1, aR 0 0), (2, aR 48 0), (3, aR 66 0), (4, aR 67 0), (5, aI (l5 + (nI 6)))] (lq_c rfl (lq_c rfl (lq_c rfl (lq_c rfl (lq_c rfl (lq_c rfl lq_n)))))) ?_
      obtain rfl := Option.some.inj h
      exact l_mono (hi _ _ rfl)
    · replace h := if_t c h
      refine l_sg k334 6 (pc' := 2505) (ls' := [(0, aR 68 0), (1, aR 0 0), (2, aR 48 0), (3, aR 66 0), (4, aR 67 0), (5, aI l5), (6, aI v4), (7, aI v7)]) (st' := [aI (lg_cmp (gJ Y8.1 66 0 0) ((v7).toInt64))]) (cs' := [vp_in (nI 0) 1]) (fun _ => rfl) (al1 (vin rfl)) ?_
      refine l_if_eq k334 rfl (fun c => ?_) (fun c => ?_)
      · replace h := if_t c h
        refine l_sg k334 2 (pc' := 2736) (ls' := [(0, aR 68 0), (1, aR 0 0), (2, aR 48 0), (3, aR 66 0), (4, aR 67 0), (5, aI (l5 + (nI 6))), (6, aI v4), (7, aI v7)]) (st' := []) (cs' := []) (fun _ => rfl) al0 ?_
        refine l_sg k334 1 (pc' := 28) (ls' := [(0, aR 68 0), (1, aR 0 0), (2, aR 48 0), (3, aR 66 0), (4, aR 67 0), (5, aI (l5 + (nI 6))), (6, aI v4), (7, aI v7)]) (st' := []) (cs' := []) (fun _ => rfl) al0 ?_
        refine l_ls [(0, aR 68 0), (1, aR 0 0), (2, aR 48 0), (3, aR 66 0), (4, aR 67 0), (5, aI (l5 + (nI 6)))] (lq_c rfl (lq_c rfl (lq_c rfl (lq_c rfl (lq_c rfl (lq_c rfl lq_n)))))) ?_
        obtain rfl := Option.some.inj h
        exact l_mono (hi _ _ rfl)
      · replace h := if_f c h
        refine l_sg k334 1 (pc' := 2509) (ls' := [(0, aR 68 0), (1, aR 0 0), (2, aR 48 0), (3, aR 66 0), (4, aR 67 0), (5, aI l5), (6, aI v4), (7, aI v7)]) (st' := [aI (nI 0)]) (cs' := []) (fun _ => rfl) al0 ?_
        obtain rfl := Option.some.inj h
        exact l_zreturn k334 (Or.inl rfl) (hr _ rfl)
  · replace h := if_f c h
    refine l_sg k334 1 (pc' := 2492) (ls' := [(0, aR 68 0), (1, aR 0 0), (2, aR 48 0), (3, aR 66 0), (4, aR 67 0), (5, aI l5), (6, aI v4), (7, aI v7)]) (st' := [aI (nI 0)]) (cs' := []) (fun _ => rfl) al0 ?_
    obtain rfl := Option.some.inj h
    exact l_zreturn k334 (Or.inl rfl) (hr _ rfl)
def fn_334_J2513 (L : Nat) (l5 : Int32) (Y : Sm) : Option ((Int32 × Sm) ⊕ (Int32 × Sm)) :=
  ck (inb (l5 + (nI 1)) L) <| bd (fn_331 (gI Y.1 68 0 (ix (l5 + (nI 1)))) Y) fun v4 Y2 => bd (fn_265 (gI Y2.1 68 0 (ix (l5 + (nI 1)))) Y2) fun v7 Y5 => bd (fn_163 Y5) fun v10 Y8 => (if v10 = v4 then (if v4 = (nI 0) then (if (lg_cmp (gJ Y8.1 66 0 0) ((v7).toInt64)) = (nI 0) then some (.inl ((l5 + (nI 6)), Y8)) else some (.inr ((nI 0), Y8))) else some (.inl ((l5 + (nI 6)), Y8))) else some (.inr ((nI 0), Y8)))
set_option maxRecDepth 20000 in
set_option maxHeartbeats 4000000 in
theorem sn_334_J2513 {L B m : Nat} {l5 : Int32} {Y : Sm} {q : (Int32 × Sm) ⊕ (Int32 × Sm)} {P : Option Av → Sm → Prop} {E : Nat → Sm → Prop} (hi : ∀ i Z, q = .inl (i, Z) → Wl L 16 B m 28 [(0, aR 68 0), (1, aR 0 0), (2, aR 48 0), (3, aR 66 0), (4, aR 67 0), (5, aI i)] [] Z P E) (hr : ∀ o : Int32 × Sm, q = .inr o → P (some (aI o.1)) o.2) (h : fn_334_J2513 L l5 Y = some q) : Wl L 16 B (m + 8) 2513 [(0, aR 68 0), (1, aR 0 0), (2, aR 48 0), (3, aR 66 0), (4, aR 67 0), (5, aI l5)] [] Y P E := by
  unfold fn_334_J2513 at h
  obtain ⟨hc1, h⟩ := ck_some h
  refine l_sg k334 7 (pc' := 2521) (ls' := [(0, aR 68 0), (1, aR 0 0), (2, aR 48 0), (3, aR 66 0), (4, aR 67 0), (5, aI l5)]) (st' := [aR 66 0, aI (gI Y.1 68 0 (ix (l5 + (nI 1)))), aR 0 0]) (cs' := [vp_in (l5 + (nI 1)) L]) (fun _ => rfl) (al1 (vin hc1)) ?_
  obtain ⟨v4, Y2, hv3, h⟩ := bd_some h
  refine l_cS1 (n := m + 7) (b' := 1) k334 (sn_331 _ _ _ hv3) rfl (st := []) rfl ?_
  refine l_sg k334 1 (pc' := 2526) (ls' := [(0, aR 68 0), (1, aR 0 0), (2, aR 48 0), (3, aR 66 0), (4, aR 67 0), (5, aI l5), (6, aI v4)]) (st' := []) (cs' := []) (fun _ => rfl) al0 ?_
  refine l_sg k334 6 (pc' := 2533) (ls' := [(0, aR 68 0), (1, aR 0 0), (2, aR 48 0), (3, aR 66 0), (4, aR 67 0), (5, aI l5), (6, aI v4)]) (st' := [aI (gI Y2.1 68 0 (ix (l5 + (nI 1)))), aR 48 0]) (cs' := [vp_in (l5 + (nI 1)) L]) (fun _ => rfl) (al1 (vin hc1)) ?_
  obtain ⟨v7, Y5, hv6, h⟩ := bd_some h
  refine l_cV1 (n := m + 7) (b' := 0) k334 (sn_265 _ _ _ hv6) rfl (st := []) rfl ?_
  refine l_sg k334 1 (pc' := 2538) (ls' := [(0, aR 68 0), (1, aR 0 0), (2, aR 48 0), (3, aR 66 0), (4, aR 67 0), (5, aI l5), (6, aI v4), (7, aI v7)]) (st' := []) (cs' := []) (fun _ => rfl) al0 ?_
  refine l_sg k334 1 (pc' := 2539) (ls' := [(0, aR 68 0), (1, aR 0 0), (2, aR 48 0), (3, aR 66 0), (4, aR 67 0), (5, aI l5), (6, aI v4), (7, aI v7)]) (st' := [aR 48 0]) (cs' := []) (fun _ => rfl) al0 ?_
  obtain ⟨v10, Y8, hv9, h⟩ := bd_some h
  refine l_cV1 (n := m + 7) (b' := 0) k334 (sn_163  _ _ hv9) rfl (st := []) rfl ?_
  refine l_sg k334 1 (pc' := 2544) (ls' := [(0, aR 68 0), (1, aR 0 0), (2, aR 48 0), (3, aR 66 0), (4, aR 67 0), (5, aI l5), (6, aI v4), (7, aI v7)]) (st' := [aI v4, aI v10]) (cs' := []) (fun _ => rfl) al0 ?_
  refine l_icmp_eq k334 rfl (fun c => ?_) (fun c => ?_)
  · replace h := if_t c h
    refine l_sg k334 1 (pc' := 2551) (ls' := [(0, aR 68 0), (1, aR 0 0), (2, aR 48 0), (3, aR 66 0), (4, aR 67 0), (5, aI l5), (6, aI v4), (7, aI v7)]) (st' := [aI v4]) (cs' := []) (fun _ => rfl) al0 ?_
    refine l_if_ne k334 rfl (fun c => ?_) (fun c => ?_)
    · replace h := if_f c h
      refine l_sg k334 2 (pc' := 2736) (ls' := [(0, aR 68 0), (1, aR 0 0), (2, aR 48 0), (3, aR 66 0), (4, aR 67 0), (5, aI (l5 + (nI 6))), (6, aI v4), (7, aI v7)]) (st' := []) (cs' := []) (fun _ => rfl) al0 ?_
      refine l_sg k334 1 (pc' := 28) (ls' := [(0, aR 68 0), (1, aR 0 0), (2, aR 48 0), (3, aR 66 0), (4, aR 67 0), (5, aI (l5 + (nI 6))), (6, aI v4), (7, aI v7)]) (st' := []) (cs' := []) (fun _ => rfl) al0 ?_
      refine l_ls [(0, aR 68 0), (1, aR 0 0), (2, aR 48 0), (3, aR 66 0), (4, aR 67 0), (5, aI (l5 + (nI 6)))] (lq_c rfl (lq_c rfl (lq_c rfl (lq_c rfl (lq_c rfl (lq_c rfl lq_n)))))) ?_
      obtain rfl := Option.some.inj h
      exact l_mono (hi _ _ rfl)
    · replace h := if_t c h
      refine l_sg k334 6 (pc' := 2561) (ls' := [(0, aR 68 0), (1, aR 0 0), (2, aR 48 0), (3, aR 66 0), (4, aR 67 0), (5, aI l5), (6, aI v4), (7, aI v7)]) (st' := [aI (lg_cmp (gJ Y8.1 66 0 0) ((v7).toInt64))]) (cs' := [vp_in (nI 0) 1]) (fun _ => rfl) (al1 (vin rfl)) ?_
      refine l_if_eq k334 rfl (fun c => ?_) (fun c => ?_)
      · replace h := if_t c h
        refine l_sg k334 2 (pc' := 2736) (ls' := [(0, aR 68 0), (1, aR 0 0), (2, aR 48 0), (3, aR 66 0), (4, aR 67 0), (5, aI (l5 + (nI 6))), (6, aI v4), (7, aI v7)]) (st' := []) (cs' := []) (fun _ => rfl) al0 ?_
        refine l_sg k334 1 (pc' := 28) (ls' := [(0, aR 68 0), (1, aR 0 0), (2, aR 48 0), (3, aR 66 0), (4, aR 67 0), (5, aI (l5 + (nI 6))), (6, aI v4), (7, aI v7)]) (st' := []) (cs' := []) (fun _ => rfl) al0 ?_
        refine l_ls [(0, aR 68 0), (1, aR 0 0), (2, aR 48 0), (3, aR 66 0), (4, aR 67 0), (5, aI (l5 + (nI 6)))] (lq_c rfl (lq_c rfl (lq_c rfl (lq_c rfl (lq_c rfl (lq_c rfl lq_n)))))) ?_
        obtain rfl := Option.some.inj h
        exact l_mono (hi _ _ rfl)
      · replace h := if_f c h
        refine l_sg k334 1 (pc' := 2565) (ls' := [(0, aR 68 0), (1, aR 0 0), (2, aR 48 0), (3, aR 66 0), (4, aR 67 0), (5, aI l5), (6, aI v4), (7, aI v7)]) (st' := [aI (nI 0)]) (cs' := []) (fun _ => rfl) al0 ?_
        obtain rfl := Option.some.inj h
        exact l_zreturn k334 (Or.inl rfl) (hr _ rfl)
  · replace h := if_f c h
    refine l_sg k334 1 (pc' := 2548) (ls' := [(0, aR 68 0), (1, aR 0 0), (2, aR 48 0), (3, aR 66 0), (4, aR 67 0), (5, aI l5), (6, aI v4), (7, aI v7)]) (st' := [aI (nI 0)]) (cs' := []) (fun _ => rfl) al0 ?_
    obtain rfl := Option.some.inj h
    exact l_zreturn k334 (Or.inl rfl) (hr _ rfl)
def fn_334_J2569 (L : Nat) (l5 : Int32) (Y : Sm) : Option ((Int32 × Sm) ⊕ (Int32 × Sm)) :=
  ck (inb (l5 + (nI 1)) L) <| bd (fn_332 (gI Y.1 68 0 (ix (l5 + (nI 1)))) Y) fun v4 Y2 => bd (fn_266 (gI Y2.1 68 0 (ix (l5 + (nI 1)))) Y2) fun v7 Y5 => bd (fn_163 Y5) fun v10 Y8 => (if v10 = v4 then (if v4 = (nI 0) then (if (lg_cmp (gJ Y8.1 66 0 0) ((v7).toInt64)) = (nI 0) then some (.inl ((l5 + (nI 6)), Y8)) else some (.inr ((nI 0), Y8))) else some (.inl ((l5 + (nI 6)), Y8))) else some (.inr ((nI 0), Y8)))
set_option maxRecDepth 20000 in
set_option maxHeartbeats 4000000 in
theorem sn_334_J2569 {L B m : Nat} {l5 : Int32} {Y : Sm} {q : (Int32 × Sm) ⊕ (Int32 × Sm)} {P : Option Av → Sm → Prop} {E : Nat → Sm → Prop} (hi : ∀ i Z, q = .inl (i, Z) → Wl L 16 B m 28 [(0, aR 68 0), (1, aR 0 0), (2, aR 48 0), (3, aR 66 0), (4, aR 67 0), (5, aI i)] [] Z P E) (hr : ∀ o : Int32 × Sm, q = .inr o → P (some (aI o.1)) o.2) (h : fn_334_J2569 L l5 Y = some q) : Wl L 16 B (m + 8) 2569 [(0, aR 68 0), (1, aR 0 0), (2, aR 48 0), (3, aR 66 0), (4, aR 67 0), (5, aI l5)] [] Y P E := by
  unfold fn_334_J2569 at h
  obtain ⟨hc1, h⟩ := ck_some h
  refine l_sg k334 7 (pc' := 2577) (ls' := [(0, aR 68 0), (1, aR 0 0), (2, aR 48 0), (3, aR 66 0), (4, aR 67 0), (5, aI l5)]) (st' := [aR 66 0, aI (gI Y.1 68 0 (ix (l5 + (nI 1)))), aR 0 0]) (cs' := [vp_in (l5 + (nI 1)) L]) (fun _ => rfl) (al1 (vin hc1)) ?_
  obtain ⟨v4, Y2, hv3, h⟩ := bd_some h
  refine l_cS1 (n := m + 7) (b' := 1) k334 (sn_332 _ _ _ hv3) rfl (st := []) rfl ?_
  refine l_sg k334 1 (pc' := 2582) (ls' := [(0, aR 68 0), (1, aR 0 0), (2, aR 48 0), (3, aR 66 0), (4, aR 67 0), (5, aI l5), (6, aI v4)]) (st' := []) (cs' := []) (fun _ => rfl) al0 ?_
  refine l_sg k334 6 (pc' := 2589) (ls' := [(0, aR 68 0), (1, aR 0 0), (2, aR 48 0), (3, aR 66 0), (4, aR 67 0), (5, aI l5), (6, aI v4)]) (st' := [aI (gI Y2.1 68 0 (ix (l5 + (nI 1)))), aR 48 0]) (cs' := [vp_in (l5 + (nI 1)) L]) (fun _ => rfl) (al1 (vin hc1)) ?_
  obtain ⟨v7, Y5, hv6, h⟩ := bd_some h
  refine l_cV1 (n := m + 7) (b' := 0) k334 (sn_266 _ _ _ hv6) rfl (st := []) rfl ?_
  refine l_sg k334 1 (pc' := 2594) (ls' := [(0, aR 68 0), (1, aR 0 0), (2, aR 48 0), (3, aR 66 0), (4, aR 67 0), (5, aI l5), (6, aI v4), (7, aI v7)]) (st' := []) (cs' := []) (fun _ => rfl) al0 ?_
  refine l_sg k334 1 (pc' := 2595) (ls' := [(0, aR 68 0), (1, aR 0 0), (2, aR 48 0), (3, aR 66 0), (4, aR 67 0), (5, aI l5), (6, aI v4), (7, aI v7)]) (st' := [aR 48 0]) (cs' := []) (fun _ => rfl) al0 ?_
  obtain ⟨v10, Y8, hv9, h⟩ := bd_some h
  refine l_cV1 (n := m + 7) (b' := 0) k334 (sn_163  _ _ hv9) rfl (st := []) rfl ?_
  refine l_sg k334 1 (pc' := 2600) (ls' := [(0, aR 68 0), (1, aR 0 0), (2, aR 48 0), (3, aR 66 0), (4, aR 67 0), (5, aI l5), (6, aI v4), (7, aI v7)]) (st' := [aI v4, aI v10]) (cs' := []) (fun _ => rfl) al0 ?_
  refine l_icmp_eq k334 rfl (fun c => ?_) (fun c => ?_)
  · replace h := if_t c h
    refine l_sg k334 1 (pc' := 2607) (ls' := [(0, aR 68 0), (1, aR 0 0), (2, aR 48 0), (3, aR 66 0), (4, aR 67 0), (5, aI l5), (6, aI v4), (7, aI v7)]) (st' := [aI v4]) (cs' := []) (fun _ => rfl) al0 ?_
    refine l_if_ne k334 rfl (fun c => ?_) (fun c => ?_)
    · replace h := if_f c h
      refine l_sg k334 2 (pc' := 2736) (ls' := [(0, aR 68 0), (1, aR 0 0), (2, aR 48 0), (3, aR 66 0), (4, aR 67 0), (5, aI (l5 + (nI 6))), (6, aI v4), (7, aI v7)]) (st' := []) (cs' := []) (fun _ => rfl) al0 ?_
      refine l_sg k334 1 (pc' := 28) (ls' := [(0, aR 68 0), (1, aR 0 0), (2, aR 48 0), (3, aR 66 0), (4, aR 67 0), (5, aI (l5 + (nI 6))), (6, aI v4), (7, aI v7)]) (st' := []) (cs' := []) (fun _ => rfl) al0 ?_
      refine l_ls [(0, aR 68 0), (1, aR 0 0), (2, aR 48 0), (3, aR 66 0), (4, aR 67 0), (5, aI (l5 + (nI 6)))] (lq_c rfl (lq_c rfl (lq_c rfl (lq_c rfl (lq_c rfl (lq_c rfl lq_n)))))) ?_
      obtain rfl := Option.some.inj h
      exact l_mono (hi _ _ rfl)
    · replace h := if_t c h
      refine l_sg k334 6 (pc' := 2617) (ls' := [(0, aR 68 0), (1, aR 0 0), (2, aR 48 0), (3, aR 66 0), (4, aR 67 0), (5, aI l5), (6, aI v4), (7, aI v7)]) (st' := [aI (lg_cmp (gJ Y8.1 66 0 0) ((v7).toInt64))]) (cs' := [vp_in (nI 0) 1]) (fun _ => rfl) (al1 (vin rfl)) ?_
      refine l_if_eq k334 rfl (fun c => ?_) (fun c => ?_)
      · replace h := if_t c h
        refine l_sg k334 2 (pc' := 2736) (ls' := [(0, aR 68 0), (1, aR 0 0), (2, aR 48 0), (3, aR 66 0), (4, aR 67 0), (5, aI (l5 + (nI 6))), (6, aI v4), (7, aI v7)]) (st' := []) (cs' := []) (fun _ => rfl) al0 ?_
        refine l_sg k334 1 (pc' := 28) (ls' := [(0, aR 68 0), (1, aR 0 0), (2, aR 48 0), (3, aR 66 0), (4, aR 67 0), (5, aI (l5 + (nI 6))), (6, aI v4), (7, aI v7)]) (st' := []) (cs' := []) (fun _ => rfl) al0 ?_
        refine l_ls [(0, aR 68 0), (1, aR 0 0), (2, aR 48 0), (3, aR 66 0), (4, aR 67 0), (5, aI (l5 + (nI 6)))] (lq_c rfl (lq_c rfl (lq_c rfl (lq_c rfl (lq_c rfl (lq_c rfl lq_n)))))) ?_
        obtain rfl := Option.some.inj h
        exact l_mono (hi _ _ rfl)
      · replace h := if_f c h
        refine l_sg k334 1 (pc' := 2621) (ls' := [(0, aR 68 0), (1, aR 0 0), (2, aR 48 0), (3, aR 66 0), (4, aR 67 0), (5, aI l5), (6, aI v4), (7, aI v7)]) (st' := [aI (nI 0)]) (cs' := []) (fun _ => rfl) al0 ?_
        obtain rfl := Option.some.inj h
        exact l_zreturn k334 (Or.inl rfl) (hr _ rfl)
  · replace h := if_f c h
    refine l_sg k334 1 (pc' := 2604) (ls' := [(0, aR 68 0), (1, aR 0 0), (2, aR 48 0), (3, aR 66 0), (4, aR 67 0), (5, aI l5), (6, aI v4), (7, aI v7)]) (st' := [aI (nI 0)]) (cs' := []) (fun _ => rfl) al0 ?_
    obtain rfl := Option.some.inj h
    exact l_zreturn k334 (Or.inl rfl) (hr _ rfl)
def fn_334_J2625 (L : Nat) (l5 : Int32) (Y : Sm) : Option ((Int32 × Sm) ⊕ (Int32 × Sm)) :=
  bd (fn_149 Y) fun v3 Y1 => bd (fn_267 Y1) fun v6 Y4 => (if v3 = v6 then some (.inl ((l5 + (nI 6)), Y4)) else some (.inr ((nI 0), Y4)))
set_option maxRecDepth 20000 in
set_option maxHeartbeats 4000000 in
theorem sn_334_J2625 {L B m : Nat} {l5 : Int32} {Y : Sm} {q : (Int32 × Sm) ⊕ (Int32 × Sm)} {P : Option Av → Sm → Prop} {E : Nat → Sm → Prop} (hi : ∀ i Z, q = .inl (i, Z) → Wl L 16 B m 28 [(0, aR 68 0), (1, aR 0 0), (2, aR 48 0), (3, aR 66 0), (4, aR 67 0), (5, aI i)] [] Z P E) (hr : ∀ o : Int32 × Sm, q = .inr o → P (some (aI o.1)) o.2) (h : fn_334_J2625 L l5 Y = some q) : Wl L 16 B (m + 8) 2625 [(0, aR 68 0), (1, aR 0 0), (2, aR 48 0), (3, aR 66 0), (4, aR 67 0), (5, aI l5)] [] Y P E := by
  unfold fn_334_J2625 at h
  refine l_sg k334 1 (pc' := 2626) (ls' := [(0, aR 68 0), (1, aR 0 0), (2, aR 48 0), (3, aR 66 0), (4, aR 67 0), (5, aI l5)]) (st' := [aR 0 0]) (cs' := []) (fun _ => rfl) al0 ?_
  obtain ⟨v3, Y1, hv2, h⟩ := bd_some h
  refine l_cV1 (n := m + 8) (b' := 0) k334 (sn_149  _ _ hv2) rfl (st := []) rfl ?_
  refine l_sg k334 1 (pc' := 2630) (ls' := [(0, aR 68 0), (1, aR 0 0), (2, aR 48 0), (3, aR 66 0), (4, aR 67 0), (5, aI l5)]) (st' := [aR 48 0, aI v3]) (cs' := []) (fun _ => rfl) al0 ?_
  obtain ⟨v6, Y4, hv5, h⟩ := bd_some h
  refine l_cV1 (n := m + 8) (b' := 0) k334 (sn_267  _ _ hv5) rfl (st := [aI v3]) rfl ?_
  refine l_icmp_eq k334 rfl (fun c => ?_) (fun c => ?_)
  · replace h := if_t c h
    refine l_sg k334 1 (pc' := 2736) (ls' := [(0, aR 68 0), (1, aR 0 0), (2, aR 48 0), (3, aR 66 0), (4, aR 67 0), (5, aI (l5 + (nI 6)))]) (st' := []) (cs' := []) (fun _ => rfl) al0 ?_
    refine l_sg k334 1 (pc' := 28) (ls' := [(0, aR 68 0), (1, aR 0 0), (2, aR 48 0), (3, aR 66 0), (4, aR 67 0), (5, aI (l5 + (nI 6)))]) (st' := []) (cs' := []) (fun _ => rfl) al0 ?_
    refine l_ls [(0, aR 68 0), (1, aR 0 0), (2, aR 48 0), (3, aR 66 0), (4, aR 67 0), (5, aI (l5 + (nI 6)))] (lq_c rfl (lq_c rfl (lq_c rfl (lq_c rfl (lq_c rfl (lq_c rfl lq_n)))))) ?_
    obtain rfl := Option.some.inj h
    exact l_mono (hi _ _ rfl)
  · replace h := if_f c h
    refine l_sg k334 1 (pc' := 2637) (ls' := [(0, aR 68 0), (1, aR 0 0), (2, aR 48 0), (3, aR 66 0), (4, aR 67 0), (5, aI l5)]) (st' := [aI (nI 0)]) (cs' := []) (fun _ => rfl) al0 ?_
    obtain rfl := Option.some.inj h
    exact l_zreturn k334 (Or.inl rfl) (hr _ rfl)
def fn_334_J2638 (L : Nat) (l5 : Int32) (Y : Sm) : Option ((Int32 × Sm) ⊕ (Int32 × Sm)) :=
  bd (fn_150 Y) fun v3 Y1 => bd (fn_298 Y1) fun v6 Y4 => (if v3 = v6 then some (.inl ((l5 + (nI 6)), Y4)) else some (.inr ((nI 0), Y4)))
set_option maxRecDepth 20000 in
set_option maxHeartbeats 4000000 in
theorem sn_334_J2638 {L B m : Nat} {l5 : Int32} {Y : Sm} {q : (Int32 × Sm) ⊕ (Int32 × Sm)} {P : Option Av → Sm → Prop} {E : Nat → Sm → Prop} (hi : ∀ i Z, q = .inl (i, Z) → Wl L 16 B m 28 [(0, aR 68 0), (1, aR 0 0), (2, aR 48 0), (3, aR 66 0), (4, aR 67 0), (5, aI i)] [] Z P E) (hr : ∀ o : Int32 × Sm, q = .inr o → P (some (aI o.1)) o.2) (h : fn_334_J2638 L l5 Y = some q) : Wl L 16 B (m + 8) 2638 [(0, aR 68 0), (1, aR 0 0), (2, aR 48 0), (3, aR 66 0), (4, aR 67 0), (5, aI l5)] [] Y P E := by
  unfold fn_334_J2638 at h
  refine l_sg k334 1 (pc' := 2639) (ls' := [(0, aR 68 0), (1, aR 0 0), (2, aR 48 0), (3, aR 66 0), (4, aR 67 0), (5, aI l5)]) (st' := [aR 0 0]) (cs' := []) (fun _ => rfl) al0 ?_
  obtain ⟨v3, Y1, hv2, h⟩ := bd_some h
  refine l_cV1 (n := m + 8) (b' := 0) k334 (sn_150  _ _ hv2) rfl (st := []) rfl ?_
  refine l_sg k334 1 (pc' := 2643) (ls' := [(0, aR 68 0), (1, aR 0 0), (2, aR 48 0), (3, aR 66 0), (4, aR 67 0), (5, aI l5)]) (st' := [aR 48 0, aI v3]) (cs' := []) (fun _ => rfl) al0 ?_
  obtain ⟨v6, Y4, hv5, h⟩ := bd_some h
  refine l_cV1 (n := m + 8) (b' := 0) k334 (sn_298  _ _ hv5) rfl (st := [aI v3]) rfl ?_
  refine l_icmp_eq k334 rfl (fun c => ?_) (fun c => ?_)
  · replace h := if_t c h
    refine l_sg k334 1 (pc' := 2736) (ls' := [(0, aR 68 0), (1, aR 0 0), (2, aR 48 0), (3, aR 66 0), (4, aR 67 0), (5, aI (l5 + (nI 6)))]) (st' := []) (cs' := []) (fun _ => rfl) al0 ?_
    refine l_sg k334 1 (pc' := 28) (ls' := [(0, aR 68 0), (1, aR 0 0), (2, aR 48 0), (3, aR 66 0), (4, aR 67 0), (5, aI (l5 + (nI 6)))]) (st' := []) (cs' := []) (fun _ => rfl) al0 ?_
    refine l_ls [(0, aR 68 0), (1, aR 0 0), (2, aR 48 0), (3, aR 66 0), (4, aR 67 0), (5, aI (l5 + (nI 6)))] (lq_c rfl (lq_c rfl (lq_c rfl (lq_c rfl (lq_c rfl (lq_c rfl lq_n)))))) ?_
    obtain rfl := Option.some.inj h
    exact l_mono (hi _ _ rfl)
  · replace h := if_f c h
    refine l_sg k334 1 (pc' := 2650) (ls' := [(0, aR 68 0), (1, aR 0 0), (2, aR 48 0), (3, aR 66 0), (4, aR 67 0), (5, aI l5)]) (st' := [aI (nI 0)]) (cs' := []) (fun _ => rfl) al0 ?_
    obtain rfl := Option.some.inj h
    exact l_zreturn k334 (Or.inl rfl) (hr _ rfl)
def fn_334_J2651 (L : Nat) (l5 : Int32) (Y : Sm) : Option ((Int32 × Sm) ⊕ (Int32 × Sm)) :=
  ck (inb (l5 + (nI 1)) L) <| bd (fn_151 (gI Y.1 68 0 (ix (l5 + (nI 1)))) Y) fun v4 Y2 => bd (fn_299 (gI Y2.1 68 0 (ix (l5 + (nI 1)))) Y2) fun v7 Y5 => (if v4 = v7 then some (.inl ((l5 + (nI 6)), Y5)) else some (.inr ((nI 0), Y5)))
set_option maxRecDepth 20000 in
set_option maxHeartbeats 4000000 in
theorem sn_334_J2651 {L B m : Nat} {l5 : Int32} {Y : Sm} {q : (Int32 × Sm) ⊕ (Int32 × Sm)} {P : Option Av → Sm → Prop} {E : Nat → Sm → Prop} (hi : ∀ i Z, q = .inl (i, Z) → Wl L 16 B m 28 [(0, aR 68 0), (1, aR 0 0), (2, aR 48 0), (3, aR 66 0), (4, aR 67 0), (5, aI i)] [] Z P E) (hr : ∀ o : Int32 × Sm, q = .inr o → P (some (aI o.1)) o.2) (h : fn_334_J2651 L l5 Y = some q) : Wl L 16 B (m + 8) 2651 [(0, aR 68 0), (1, aR 0 0), (2, aR 48 0), (3, aR 66 0), (4, aR 67 0), (5, aI l5)] [] Y P E := by
  unfold fn_334_J2651 at h
  obtain ⟨hc1, h⟩ := ck_some h
  refine l_sg k334 6 (pc' := 2658) (ls' := [(0, aR 68 0), (1, aR 0 0), (2, aR 48 0), (3, aR 66 0), (4, aR 67 0), (5, aI l5)]) (st' := [aI (gI Y.1 68 0 (ix (l5 + (nI 1)))), aR 0 0]) (cs' := [vp_in (l5 + (nI 1)) L]) (fun _ => rfl) (al1 (vin hc1)) ?_
  obtain ⟨v4, Y2, hv3, h⟩ := bd_some h
  refine l_cV1 (n := m + 8) (b' := 0) k334 (sn_151 _ _ _ hv3) rfl (st := []) rfl ?_
  refine l_sg k334 6 (pc' := 2668) (ls' := [(0, aR 68 0), (1, aR 0 0), (2, aR 48 0), (3, aR 66 0), (4, aR 67 0), (5, aI l5)]) (st' := [aI (gI Y2.1 68 0 (ix (l5 + (nI 1)))), aR 48 0, aI v4]) (cs' := [vp_in (l5 + (nI 1)) L]) (fun _ => rfl) (al1 (vin hc1)) ?_
  obtain ⟨v7, Y5, hv6, h⟩ := bd_some h
  refine l_cV1 (n := m + 8) (b' := 0) k334 (sn_299 _ _ _ hv6) rfl (st := [aI v4]) rfl ?_
  refine l_icmp_eq k334 rfl (fun c => ?_) (fun c => ?_)
  · replace h := if_t c h
    refine l_sg k334 1 (pc' := 2736) (ls' := [(0, aR 68 0), (1, aR 0 0), (2, aR 48 0), (3, aR 66 0), (4, aR 67 0), (5, aI (l5 + (nI 6)))]) (st' := []) (cs' := []) (fun _ => rfl) al0 ?_
    refine l_sg k334 1 (pc' := 28) (ls' := [(0, aR 68 0), (1, aR 0 0), (2, aR 48 0), (3, aR 66 0), (4, aR 67 0), (5, aI (l5 + (nI 6)))]) (st' := []) (cs' := []) (fun _ => rfl) al0 ?_
    refine l_ls [(0, aR 68 0), (1, aR 0 0), (2, aR 48 0), (3, aR 66 0), (4, aR 67 0), (5, aI (l5 + (nI 6)))] (lq_c rfl (lq_c rfl (lq_c rfl (lq_c rfl (lq_c rfl (lq_c rfl lq_n)))))) ?_
    obtain rfl := Option.some.inj h
    exact l_mono (hi _ _ rfl)
  · replace h := if_f c h
    refine l_sg k334 1 (pc' := 2675) (ls' := [(0, aR 68 0), (1, aR 0 0), (2, aR 48 0), (3, aR 66 0), (4, aR 67 0), (5, aI l5)]) (st' := [aI (nI 0)]) (cs' := []) (fun _ => rfl) al0 ?_
    obtain rfl := Option.some.inj h
    exact l_zreturn k334 (Or.inl rfl) (hr _ rfl)
def fn_334_J2676 (L : Nat) (l5 : Int32) (Y : Sm) : Option ((Int32 × Sm) ⊕ (Int32 × Sm)) :=
  bd (fn_152 Y) fun v3 Y1 => bd (fn_174 Y1) fun v6 Y4 => (if v3 = v6 then some (.inl ((l5 + (nI 6)), Y4)) else some (.inr ((nI 0), Y4)))
set_option maxRecDepth 20000 in
set_option maxHeartbeats 4000000 in
theorem sn_334_J2676 {L B m : Nat} {l5 : Int32} {Y : Sm} {q : (Int32 × Sm) ⊕ (Int32 × Sm)} {P : Option Av → Sm → Prop} {E : Nat → Sm → Prop} (hi : ∀ i Z, q = .inl (i, Z) → Wl L 16 B m 28 [(0, aR 68 0), (1, aR 0 0), (2, aR 48 0), (3, aR 66 0), (4, aR 67 0), (5, aI i)] [] Z P E) (hr : ∀ o : Int32 × Sm, q = .inr o → P (some (aI o.1)) o.2) (h : fn_334_J2676 L l5 Y = some q) : Wl L 16 B (m + 8) 2676 [(0, aR 68 0), (1, aR 0 0), (2, aR 48 0), (3, aR 66 0), (4, aR 67 0), (5, aI l5)] [] Y P E := by
  unfold fn_334_J2676 at h
  refine l_sg k334 1 (pc' := 2677) (ls' := [(0, aR 68 0), (1, aR 0 0), (2, aR 48 0), (3, aR 66 0), (4, aR 67 0), (5, aI l5)]) (st' := [aR 0 0]) (cs' := []) (fun _ => rfl) al0 ?_
  obtain ⟨v3, Y1, hv2, h⟩ := bd_some h
  refine l_cV1 (n := m + 8) (b' := 0) k334 (sn_152  _ _ hv2) rfl (st := []) rfl ?_
  refine l_sg k334 1 (pc' := 2681) (ls' := [(0, aR 68 0), (1, aR 0 0), (2, aR 48 0), (3, aR 66 0), (4, aR 67 0), (5, aI l5)]) (st' := [aR 48 0, aI v3]) (cs' := []) (fun _ => rfl) al0 ?_
  obtain ⟨v6, Y4, hv5, h⟩ := bd_some h
  refine l_cV1 (n := m + 8) (b' := 0) k334 (sn_174  _ _ hv5) rfl (st := [aI v3]) rfl ?_
  refine l_icmp_eq k334 rfl (fun c => ?_) (fun c => ?_)
  · replace h := if_t c h
    refine l_sg k334 1 (pc' := 2736) (ls' := [(0, aR 68 0), (1, aR 0 0), (2, aR 48 0), (3, aR 66 0), (4, aR 67 0), (5, aI (l5 + (nI 6)))]) (st' := []) (cs' := []) (fun _ => rfl) al0 ?_
    refine l_sg k334 1 (pc' := 28) (ls' := [(0, aR 68 0), (1, aR 0 0), (2, aR 48 0), (3, aR 66 0), (4, aR 67 0), (5, aI (l5 + (nI 6)))]) (st' := []) (cs' := []) (fun _ => rfl) al0 ?_
    refine l_ls [(0, aR 68 0), (1, aR 0 0), (2, aR 48 0), (3, aR 66 0), (4, aR 67 0), (5, aI (l5 + (nI 6)))] (lq_c rfl (lq_c rfl (lq_c rfl (lq_c rfl (lq_c rfl (lq_c rfl lq_n)))))) ?_
    obtain rfl := Option.some.inj h
    exact l_mono (hi _ _ rfl)
  · replace h := if_f c h
    refine l_sg k334 1 (pc' := 2688) (ls' := [(0, aR 68 0), (1, aR 0 0), (2, aR 48 0), (3, aR 66 0), (4, aR 67 0), (5, aI l5)]) (st' := [aI (nI 0)]) (cs' := []) (fun _ => rfl) al0 ?_
    obtain rfl := Option.some.inj h
    exact l_zreturn k334 (Or.inl rfl) (hr _ rfl)
def fn_334_J2689 (L : Nat) (l5 : Int32) (Y : Sm) : Option ((Int32 × Sm) ⊕ (Int32 × Sm)) :=
  bd (fn_333 Y) fun v3 Y1 => bd (fn_175 Y1) fun v6 Y4 => bd (fn_163 Y4) fun v9 Y7 => (if v9 = v3 then (if v3 = (nI 0) then (if (lg_cmp (gJ Y7.1 66 0 0) ((v6).toInt64)) = (nI 0) then some (.inl ((l5 + (nI 6)), Y7)) else some (.inr ((nI 0), Y7))) else some (.inl ((l5 + (nI 6)), Y7))) else some (.inr ((nI 0), Y7)))
set_option maxRecDepth 20000 in
set_option maxHeartbeats 4000000 in
theorem sn_334_J2689 {L B m : Nat} {l5 : Int32} {Y : Sm} {q : (Int32 × Sm) ⊕ (Int32 × Sm)} {P : Option Av → Sm → Prop} {E : Nat → Sm → Prop} (hi : ∀ i Z, q = .inl (i, Z) → Wl L 16 B m 28 [(0, aR 68 0), (1, aR 0 0), (2, aR 48 0), (3, aR 66 0), (4, aR 67 0), (5, aI i)] [] Z P E) (hr : ∀ o : Int32 × Sm, q = .inr o → P (some (aI o.1)) o.2) (h : fn_334_J2689 L l5 Y = some q) : Wl L 16 B (m + 8) 2689 [(0, aR 68 0), (1, aR 0 0), (2, aR 48 0), (3, aR 66 0), (4, aR 67 0), (5, aI l5)] [] Y P E := by
  unfold fn_334_J2689 at h
  refine l_sg k334 2 (pc' := 2691) (ls' := [(0, aR 68 0), (1, aR 0 0), (2, aR 48 0), (3, aR 66 0), (4, aR 67 0), (5, aI l5)]) (st' := [aR 66 0, aR 0 0]) (cs' := []) (fun _ => rfl) al0 ?_
  obtain ⟨v3, Y1, hv2, h⟩ := bd_some h
  refine l_cS1 (n := m + 7) (b' := 1) k334 (sn_333  _ _ hv2) rfl (st := []) rfl ?_
  refine l_sg k334 1 (pc' := 2696) (ls' := [(0, aR 68 0), (1, aR 0 0), (2, aR 48 0), (3, aR 66 0), (4, aR 67 0), (5, aI l5), (6, aI v3)]) (st' := []) (cs' := []) (fun _ => rfl) al0 ?_
  refine l_sg k334 1 (pc' := 2697) (ls' := [(0, aR 68 0), (1, aR 0 0), (2, aR 48 0), (3, aR 66 0), (4, aR 67 0), (5, aI l5), (6, aI v3)]) (st' := [aR 48 0]) (cs' := []) (fun _ => rfl) al0 ?_
  obtain ⟨v6, Y4, hv5, h⟩ := bd_some h
  refine l_cV1 (n := m + 7) (b' := 0) k334 (sn_175  _ _ hv5) rfl (st := []) rfl ?_
  refine l_sg k334 1 (pc' := 2702) (ls' := [(0, aR 68 0), (1, aR 0 0), (2, aR 48 0), (3, aR 66 0), (4, aR 67 0), (5, aI l5), (6, aI v3), (7, aI v6)]) (st' := []) (cs' := []) (fun _ => rfl) al0 ?_
  refine l_sg k334 1 (pc' := 2703) (ls' := [(0, aR 68 0), (1, aR 0 0), (2, aR 48 0), (3, aR 66 0), (4, aR 67 0), (5, aI l5), (6, aI v3), (7, aI v6)]) (st' := [aR 48 0]) (cs' := []) (fun _ => rfl) al0 ?_
  obtain ⟨v9, Y7, hv8, h⟩ := bd_some h
  refine l_cV1 (n := m + 7) (b' := 0) k334 (sn_163  _ _ hv8) rfl (st := []) rfl ?_
  refine l_sg k334 1 (pc' := 2708) (ls' := [(0, aR 68 0), (1, aR 0 0), (2, aR 48 0), (3, aR 66 0), (4, aR 67 0), (5, aI l5), (6, aI v3), (7, aI v6)]) (st' := [aI v3, aI v9]) (cs' := []) (fun _ => rfl) al0 ?_
  refine l_icmp_eq k334 rfl (fun c => ?_) (fun c => ?_)
  · replace h := if_t c h
    refine l_sg k334 1 (pc' := 2715) (ls' := [(0, aR 68 0), (1, aR 0 0), (2, aR 48 0), (3, aR 66 0), (4, aR 67 0), (5, aI l5), (6, aI v3), (7, aI v6)]) (st' := [aI v3]) (cs' := []) (fun _ => rfl) al0 ?_
    refine l_if_ne k334 rfl (fun c => ?_) (fun c => ?_)
    · replace h := if_f c h
      refine l_sg k334 2 (pc' := 2736) (ls' := [(0, aR 68 0), (1, aR 0 0), (2, aR 48 0), (3, aR 66 0), (4, aR 67 0), (5, aI (l5 + (nI 6))), (6, aI v3), (7, aI v6)]) (st' := []) (cs' := []) (fun _ => rfl) al0 ?_
      refine l_sg k334 1 (pc' := 28) (ls' := [(0, aR 68 0), (1, aR 0 0), (2, aR 48 0), (3, aR 66 0), (4, aR 67 0), (5, aI (l5 + (nI 6))), (6, aI v3), (7, aI v6)]) (st' := []) (cs' := []) (fun _ => rfl) al0 ?_
      refine l_ls [(0, aR 68 0), (1, aR 0 0), (2, aR 48 0), (3, aR 66 0), (4, aR 67 0), (5, aI (l5 + (nI 6)))] (lq_c rfl (lq_c rfl (lq_c rfl (lq_c rfl (lq_c rfl (lq_c rfl lq_n)))))) ?_
      obtain rfl := Option.some.inj h
      exact l_mono (hi _ _ rfl)
    · replace h := if_t c h
      refine l_sg k334 6 (pc' := 2725) (ls' := [(0, aR 68 0), (1, aR 0 0), (2, aR 48 0), (3, aR 66 0), (4, aR 67 0), (5, aI l5), (6, aI v3), (7, aI v6)]) (st' := [aI (lg_cmp (gJ Y7.1 66 0 0) ((v6).toInt64))]) (cs' := [vp_in (nI 0) 1]) (fun _ => rfl) (al1 (vin rfl)) ?_
      refine l_if_eq k334 rfl (fun c => ?_) (fun c => ?_)
      · replace h := if_t c h
        refine l_sg k334 2 (pc' := 2736) (ls' := [(0, aR 68 0), (1, aR 0 0), (2, aR 48 0), (3, aR 66 0), (4, aR 67 0), (5, aI (l5 + (nI 6))), (6, aI v3), (7, aI v6)]) (st' := []) (cs' := []) (fun _ => rfl) al0 ?_
        refine l_sg k334 1 (pc' := 28) (ls' := [(0, aR 68 0), (1, aR 0 0), (2, aR 48 0), (3, aR 66 0), (4, aR 67 0), (5, aI (l5 + (nI 6))), (6, aI v3), (7, aI v6)]) (st' := []) (cs' := []) (fun _ => rfl) al0 ?_
        refine l_ls [(0, aR 68 0), (1, aR 0 0), (2, aR 48 0), (3, aR 66 0), (4, aR 67 0), (5, aI (l5 + (nI 6)))] (lq_c rfl (lq_c rfl (lq_c rfl (lq_c rfl (lq_c rfl (lq_c rfl lq_n)))))) ?_
        obtain rfl := Option.some.inj h
        exact l_mono (hi _ _ rfl)
      · replace h := if_f c h
        refine l_sg k334 1 (pc' := 2729) (ls' := [(0, aR 68 0), (1, aR 0 0), (2, aR 48 0), (3, aR 66 0), (4, aR 67 0), (5, aI l5), (6, aI v3), (7, aI v6)]) (st' := [aI (nI 0)]) (cs' := []) (fun _ => rfl) al0 ?_
        obtain rfl := Option.some.inj h
        exact l_zreturn k334 (Or.inl rfl) (hr _ rfl)
  · replace h := if_f c h
    refine l_sg k334 1 (pc' := 2712) (ls' := [(0, aR 68 0), (1, aR 0 0), (2, aR 48 0), (3, aR 66 0), (4, aR 67 0), (5, aI l5), (6, aI v3), (7, aI v6)]) (st' := [aI (nI 0)]) (cs' := []) (fun _ => rfl) al0 ?_
    obtain rfl := Option.some.inj h
    exact l_zreturn k334 (Or.inl rfl) (hr _ rfl)
def fn_334_L28 (L : Nat) (l5 : Int32) (Y : Sm) : Option ((Int32 × Sm) ⊕ (Int32 × Sm)) :=
  (if ((nI L) - (nI 6)) < l5 then some (.inr ((nI 1), Y)) else ck (inb l5 L) <| (if ((gI Y.1 68 0 (ix l5)) &&& (nI 63)) = (nI 0) then fn_334_J260 L l5 Y else (if ((gI Y.1 68 0 (ix l5)) &&& (nI 63)) = (nI 1) then fn_334_J333 L l5 Y else (if ((gI Y.1 68 0 (ix l5)) &&& (nI 63)) = (nI 2) then fn_334_J358 L l5 Y else (if ((gI Y.1 68 0 (ix l5)) &&& (nI 63)) = (nI 3) then fn_334_J371 L l5 Y else (if ((gI Y.1 68 0 (ix l5)) &&& (nI 63)) = (nI 4) then fn_334_J384 L l5 Y else (if ((gI Y.1 68 0 (ix l5)) &&& (nI 63)) = (nI 5) then fn_334_J397 L l5 Y else (if ((gI Y.1 68 0 (ix l5)) &&& (nI 63)) = (nI 6) then fn_334_J422 L l5 Y else (if ((gI Y.1 68 0 (ix l5)) &&& (nI 63)) = (nI 7) then fn_334_J463 L l5 Y else (if ((gI Y.1 68 0 (ix l5)) &&& (nI 63)) = (nI 8) then fn_334_J531 L l5 Y else (if ((gI Y.1 68 0 (ix l5)) &&& (nI 63)) = (nI 9) then fn_334_J599 L l5 Y else (if ((gI Y.1 68 0 (ix l5)) &&& (nI 63)) = (nI 10) then fn_334_J667 L l5 Y else (if ((gI Y.1 68 0 (ix l5)) &&& (nI 63)) = (nI 11) then fn_334_J723 L l5 Y else (if ((gI Y.1 68 0 (ix l5)) &&& (nI 63)) = (nI 12) then fn_334_J791 L l5 Y else (if ((gI Y.1 68 0 (ix l5)) &&& (nI 63)) = (nI 13) then fn_334_J859 L l5 Y else (if ((gI Y.1 68 0 (ix l5)) &&& (nI 63)) = (nI 14) then fn_334_J872 L l5 Y else (if ((gI Y.1 68 0 (ix l5)) &&& (nI 63)) = (nI 15) then fn_334_J940 L l5 Y else (if ((gI Y.1 68 0 (ix l5)) &&& (nI 63)) = (nI 16) then fn_334_J996 L l5 Y else (if ((gI Y.1 68 0 (ix l5)) &&& (nI 63)) = (nI 17) then fn_334_J1064 L l5 Y else (if ((gI Y.1 68 0 (ix l5)) &&& (nI 63)) = (nI 18) then fn_334_J1139 L l5 Y else (if ((gI Y.1 68 0 (ix l5)) &&& (nI 63)) = (nI 19) then fn_334_J1195 L l5 Y else (if ((gI Y.1 68 0 (ix l5)) &&& (nI 63)) = (nI 20) then fn_334_J1208 L l5 Y else (if ((gI Y.1 68 0 (ix l5)) &&& (nI 63)) = (nI 21) then fn_334_J1276 L l5 Y else (if ((gI Y.1 68 0 (ix l5)) &&& (nI 63)) = (nI 22) then fn_334_J1339 L l5 Y else (if ((gI Y.1 68 0 (ix l5)) &&& (nI 63)) = (nI 23) then fn_334_J1352 L l5 Y else (if ((gI Y.1 68 0 (ix l5)) &&& (nI 63)) = (nI 24) then fn_334_J1420 L l5 Y else (if ((gI Y.1 68 0 (ix l5)) &&& (nI 63)) = (nI 25) then fn_334_J1476 L l5 Y else (if ((gI Y.1 68 0 (ix l5)) &&& (nI 63)) = (nI 26) then fn_334_J1532 L l5 Y else (if ((gI Y.1 68 0 (ix l5)) &&& (nI 63)) = (nI 27) then fn_334_J1609 L l5 Y else (if ((gI Y.1 68 0 (ix l5)) &&& (nI 63)) = (nI 28) then fn_334_J1687 L l5 Y else (if ((gI Y.1 68 0 (ix l5)) &&& (nI 63)) = (nI 29) then fn_334_J1700 L l5 Y else (if ((gI Y.1 68 0 (ix l5)) &&& (nI 63)) = (nI 30) then fn_334_J1713 L l5 Y else (if ((gI Y.1 68 0 (ix l5)) &&& (nI 63)) = (nI 31) then fn_334_J1769 L l5 Y else (if ((gI Y.1 68 0 (ix l5)) &&& (nI 63)) = (nI 32) then fn_334_J1849 L l5 Y else (if ((gI Y.1 68 0 (ix l5)) &&& (nI 63)) = (nI 33) then fn_334_J1905 L l5 Y else (if ((gI Y.1 68 0 (ix l5)) &&& (nI 63)) = (nI 34) then fn_334_J1961 L l5 Y else (if ((gI Y.1 68 0 (ix l5)) &&& (nI 63)) = (nI 35) then fn_334_J2029 L l5 Y else (if ((gI Y.1 68 0 (ix l5)) &&& (nI 63)) = (nI 36) then fn_334_J2085 L l5 Y else (if ((gI Y.1 68 0 (ix l5)) &&& (nI 63)) = (nI 37) then fn_334_J2141 L l5 Y else (if ((gI Y.1 68 0 (ix l5)) &&& (nI 63)) = (nI 38) then fn_334_J2209 L l5 Y else (if ((gI Y.1 68 0 (ix l5)) &&& (nI 63)) = (nI 39) then fn_334_J2253 L l5 Y else (if ((gI Y.1 68 0 (ix l5)) &&& (nI 63)) = (nI 40) then fn_334_J2321 L l5 Y else (if ((gI Y.1 68 0 (ix l5)) &&& (nI 63)) = (nI 41) then fn_334_J2389 L l5 Y else (if ((gI Y.1 68 0 (ix l5)) &&& (nI 63)) = (nI 42) then fn_334_J2457 L l5 Y else (if ((gI Y.1 68 0 (ix l5)) &&& (nI 63)) = (nI 43) then fn_334_J2513 L l5 Y else (if ((gI Y.1 68 0 (ix l5)) &&& (nI 63)) = (nI 44) then fn_334_J2569 L l5 Y else (if ((gI Y.1 68 0 (ix l5)) &&& (nI 63)) = (nI 45) then fn_334_J2625 L l5 Y else (if ((gI Y.1 68 0 (ix l5)) &&& (nI 63)) = (nI 46) then fn_334_J2638 L l5 Y else (if ((gI Y.1 68 0 (ix l5)) &&& (nI 63)) = (nI 47) then fn_334_J2651 L l5 Y else (if ((gI Y.1 68 0 (ix l5)) &&& (nI 63)) = (nI 48) then fn_334_J2676 L l5 Y else (if ((gI Y.1 68 0 (ix l5)) &&& (nI 63)) = (nI 49) then fn_334_J2689 L l5 Y else some (.inl ((l5 + (nI 6)), Y)))))))))))))))))))))))))))))))))))))))))))))))))))))
set_option maxRecDepth 20000 in
set_option maxHeartbeats 4000000 in
theorem sn_334_L28 {L B m : Nat} {l5 : Int32} {Y : Sm} {q : (Int32 × Sm) ⊕ (Int32 × Sm)} {P : Option Av → Sm → Prop} {E : Nat → Sm → Prop} (hi : ∀ i Z, q = .inl (i, Z) → Wl L 16 B m 28 [(0, aR 68 0), (1, aR 0 0), (2, aR 48 0), (3, aR 66 0), (4, aR 67 0), (5, aI i)] [] Z P E) (hr : ∀ o : Int32 × Sm, q = .inr o → P (some (aI o.1)) o.2) (h : fn_334_L28 L l5 Y = some q) : Wl L 16 B (m + 8) 28 [(0, aR 68 0), (1, aR 0 0), (2, aR 48 0), (3, aR 66 0), (4, aR 67 0), (5, aI l5)] [] Y P E := by
  unfold fn_334_L28 at h
  refine l_sg k334 5 (pc' := 35) (ls' := [(0, aR 68 0), (1, aR 0 0), (2, aR 48 0), (3, aR 66 0), (4, aR 67 0), (5, aI l5)]) (st' := [aI ((nI L) - (nI 6)), aI l5]) (cs' := []) (fun _ => rfl) al0 ?_
  refine l_icmp_gt k334 rfl (fun c => ?_) (fun c => ?_)
  · replace h := if_t c h
    refine l_sg k334 1 (pc' := 2740) (ls' := [(0, aR 68 0), (1, aR 0 0), (2, aR 48 0), (3, aR 66 0), (4, aR 67 0), (5, aI l5)]) (st' := [aI (nI 1)]) (cs' := []) (fun _ => rfl) al0 ?_
    obtain rfl := Option.some.inj h
    exact l_zreturn k334 (Or.inr rfl) (hr _ rfl)
  · replace h := if_f c h
    obtain ⟨hc1, h⟩ := ck_some h
    refine l_sg k334 5 (pc' := 45) (ls' := [(0, aR 68 0), (1, aR 0 0), (2, aR 48 0), (3, aR 66 0), (4, aR 67 0), (5, aI l5)]) (st' := [aI ((gI Y.1 68 0 (ix l5)) &&& (nI 63))]) (cs' := [vp_in l5 L]) (fun _ => rfl) (al1 (vin hc1)) ?_
    by_cases c2 : ((gI Y.1 68 0 (ix l5)) &&& (nI 63)) = (nI 0)
    · replace h := if_t c2 h
      refine l_swAt k334 0 rfl rfl rfl rfl c2 ?_
      refine l_ls [(0, aR 68 0), (1, aR 0 0), (2, aR 48 0), (3, aR 66 0), (4, aR 67 0), (5, aI l5)] (lq_c rfl (lq_c rfl (lq_c rfl (lq_c rfl (lq_c rfl (lq_c rfl lq_n)))))) ?_
      exact sn_334_J260  hi hr h
    replace h := if_f c2 h
    by_cases c3 : ((gI Y.1 68 0 (ix l5)) &&& (nI 63)) = (nI 1)
    · replace h := if_t c3 h
      refine l_swAt k334 1 rfl rfl rfl rfl c3 ?_
      refine l_ls [(0, aR 68 0), (1, aR 0 0), (2, aR 48 0), (3, aR 66 0), (4, aR 67 0), (5, aI l5)] (lq_c rfl (lq_c rfl (lq_c rfl (lq_c rfl (lq_c rfl (lq_c rfl lq_n)))))) ?_
      exact sn_334_J333  hi hr h
    replace h := if_f c3 h
    by_cases c4 : ((gI Y.1 68 0 (ix l5)) &&& (nI 63)) = (nI 2)
    · replace h := if_t c4 h
      refine l_swAt k334 2 rfl rfl rfl rfl c4 ?_
      refine l_ls [(0, aR 68 0), (1, aR 0 0), (2, aR 48 0), (3, aR 66 0), (4, aR 67 0), (5, aI l5)] (lq_c rfl (lq_c rfl (lq_c rfl (lq_c rfl (lq_c rfl (lq_c rfl lq_n)))))) ?_
      exact sn_334_J358  hi hr h
    replace h := if_f c4 h
    by_cases c5 : ((gI Y.1 68 0 (ix l5)) &&& (nI 63)) = (nI 3)
    · replace h := if_t c5 h
      refine l_swAt k334 3 rfl rfl rfl rfl c5 ?_
      refine l_ls [(0, aR 68 0), (1, aR 0 0), (2, aR 48 0), (3, aR 66 0), (4, aR 67 0), (5, aI l5)] (lq_c rfl (lq_c rfl (lq_c rfl (lq_c rfl (lq_c rfl (lq_c rfl lq_n)))))) ?_
      exact sn_334_J371  hi hr h
    replace h := if_f c5 h
    by_cases c6 : ((gI Y.1 68 0 (ix l5)) &&& (nI 63)) = (nI 4)
    · replace h := if_t c6 h
      refine l_swAt k334 4 rfl rfl rfl rfl c6 ?_
      refine l_ls [(0, aR 68 0), (1, aR 0 0), (2, aR 48 0), (3, aR 66 0), (4, aR 67 0), (5, aI l5)] (lq_c rfl (lq_c rfl (lq_c rfl (lq_c rfl (lq_c rfl (lq_c rfl lq_n)))))) ?_
      exact sn_334_J384  hi hr h
    replace h := if_f c6 h
    by_cases c7 : ((gI Y.1 68 0 (ix l5)) &&& (nI 63)) = (nI 5)
    · replace h := if_t c7 h
      refine l_swAt k334 5 rfl rfl rfl rfl c7 ?_
      refine l_ls [(0, aR 68 0), (1, aR 0 0), (2, aR 48 0), (3, aR 66 0), (4, aR 67 0), (5, aI l5)] (lq_c rfl (lq_c rfl (lq_c rfl (lq_c rfl (lq_c rfl (lq_c rfl lq_n)))))) ?_
      exact sn_334_J397  hi hr h
    replace h := if_f c7 h
    by_cases c8 : ((gI Y.1 68 0 (ix l5)) &&& (nI 63)) = (nI 6)
    · replace h := if_t c8 h
      refine l_swAt k334 6 rfl rfl rfl rfl c8 ?_
      refine l_ls [(0, aR 68 0), (1, aR 0 0), (2, aR 48 0), (3, aR 66 0), (4, aR 67 0), (5, aI l5)] (lq_c rfl (lq_c rfl (lq_c rfl (lq_c rfl (lq_c rfl (lq_c rfl lq_n)))))) ?_
      exact sn_334_J422  hi hr h
    replace h := if_f c8 h
    by_cases c9 : ((gI Y.1 68 0 (ix l5)) &&& (nI 63)) = (nI 7)
    · replace h := if_t c9 h
      refine l_swAt k334 7 rfl rfl rfl rfl c9 ?_
      refine l_ls [(0, aR 68 0), (1, aR 0 0), (2, aR 48 0), (3, aR 66 0), (4, aR 67 0), (5, aI l5)] (lq_c rfl (lq_c rfl (lq_c rfl (lq_c rfl (lq_c rfl (lq_c rfl lq_n)))))) ?_
      exact sn_334_J463  hi hr h
    replace h := if_f c9 h
    by_cases c10 : ((gI Y.1 68 0 (ix l5)) &&& (nI 63)) = (nI 8)
    · replace h := if_t c10 h
      refine l_swAt k334 8 rfl rfl rfl rfl c10 ?_
      refine l_ls [(0, aR 68 0), (1, aR 0 0), (2, aR 48 0), (3, aR 66 0), (4, aR 67 0), (5, aI l5)] (lq_c rfl (lq_c rfl (lq_c rfl (lq_c rfl (lq_c rfl (lq_c rfl lq_n)))))) ?_
      exact sn_334_J531  hi hr h
    replace h := if_f c10 h
    by_cases c11 : ((gI Y.1 68 0 (ix l5)) &&& (nI 63)) = (nI 9)
    · replace h := if_t c11 h
      refine l_swAt k334 9 rfl rfl rfl rfl c11 ?_
      refine l_ls [(0, aR 68 0), (1, aR 0 0), (2, aR 48 0), (3, aR 66 0), (4, aR 67 0), (5, aI l5)] (lq_c rfl (lq_c rfl (lq_c rfl (lq_c rfl (lq_c rfl (lq_c rfl lq_n)))))) ?_
      exact sn_334_J599  hi hr h
    replace h := if_f c11 h
    by_cases c12 : ((gI Y.1 68 0 (ix l5)) &&& (nI 63)) = (nI 10)
    · replace h := if_t c12 h
      refine l_swAt k334 10 rfl rfl rfl rfl c12 ?_
      refine l_ls [(0, aR 68 0), (1, aR 0 0), (2, aR 48 0), (3, aR 66 0), (4, aR 67 0), (5, aI l5)] (lq_c rfl (lq_c rfl (lq_c rfl (lq_c rfl (lq_c rfl (lq_c rfl lq_n)))))) ?_
      exact sn_334_J667  hi hr h
    replace h := if_f c12 h
    by_cases c13 : ((gI Y.1 68 0 (ix l5)) &&& (nI 63)) = (nI 11)
    · replace h := if_t c13 h
      refine l_swAt k334 11 rfl rfl rfl rfl c13 ?_
      refine l_ls [(0, aR 68 0), (1, aR 0 0), (2, aR 48 0), (3, aR 66 0), (4, aR 67 0), (5, aI l5)] (lq_c rfl (lq_c rfl (lq_c rfl (lq_c rfl (lq_c rfl (lq_c rfl lq_n)))))) ?_
      exact sn_334_J723  hi hr h
    replace h := if_f c13 h
    by_cases c14 : ((gI Y.1 68 0 (ix l5)) &&& (nI 63)) = (nI 12)
    · replace h := if_t c14 h
      refine l_swAt k334 12 rfl rfl rfl rfl c14 ?_
      refine l_ls [(0, aR 68 0), (1, aR 0 0), (2, aR 48 0), (3, aR 66 0), (4, aR 67 0), (5, aI l5)] (lq_c rfl (lq_c rfl (lq_c rfl (lq_c rfl (lq_c rfl (lq_c rfl lq_n)))))) ?_
      exact sn_334_J791  hi hr h
    replace h := if_f c14 h
    by_cases c15 : ((gI Y.1 68 0 (ix l5)) &&& (nI 63)) = (nI 13)
    · replace h := if_t c15 h
      refine l_swAt k334 13 rfl rfl rfl rfl c15 ?_
      refine l_ls [(0, aR 68 0), (1, aR 0 0), (2, aR 48 0), (3, aR 66 0), (4, aR 67 0), (5, aI l5)] (lq_c rfl (lq_c rfl (lq_c rfl (lq_c rfl (lq_c rfl (lq_c rfl lq_n)))))) ?_
      exact sn_334_J859  hi hr h
    replace h := if_f c15 h
    by_cases c16 : ((gI Y.1 68 0 (ix l5)) &&& (nI 63)) = (nI 14)
    · replace h := if_t c16 h
      refine l_swAt k334 14 rfl rfl rfl rfl c16 ?_
      refine l_ls [(0, aR 68 0), (1, aR 0 0), (2, aR 48 0), (3, aR 66 0), (4, aR 67 0), (5, aI l5)] (lq_c rfl (lq_c rfl (lq_c rfl (lq_c rfl (lq_c rfl (lq_c rfl lq_n)))))) ?_
      exact sn_334_J872  hi hr h
    replace h := if_f c16 h
    by_cases c17 : ((gI Y.1 68 0 (ix l5)) &&& (nI 63)) = (nI 15)
    · replace h := if_t c17 h
      refine l_swAt k334 15 rfl rfl rfl rfl c17 ?_
      refine l_ls [(0, aR 68 0), (1, aR 0 0), (2, aR 48 0), (3, aR 66 0), (4, aR 67 0), (5, aI l5)] (lq_c rfl (lq_c rfl (lq_c rfl (lq_c rfl (lq_c rfl (lq_c rfl lq_n)))))) ?_
      exact sn_334_J940  hi hr h
    replace h := if_f c17 h
    by_cases c18 : ((gI Y.1 68 0 (ix l5)) &&& (nI 63)) = (nI 16)
    · replace h := if_t c18 h
      refine l_swAt k334 16 rfl rfl rfl rfl c18 ?_
      refine l_ls [(0, aR 68 0), (1, aR 0 0), (2, aR 48 0), (3, aR 66 0), (4, aR 67 0), (5, aI l5)] (lq_c rfl (lq_c rfl (lq_c rfl (lq_c rfl (lq_c rfl (lq_c rfl lq_n)))))) ?_
      exact sn_334_J996  hi hr h
    replace h := if_f c18 h
    by_cases c19 : ((gI Y.1 68 0 (ix l5)) &&& (nI 63)) = (nI 17)
    · replace h := if_t c19 h
      refine l_swAt k334 17 rfl rfl rfl rfl c19 ?_
      refine l_ls [(0, aR 68 0), (1, aR 0 0), (2, aR 48 0), (3, aR 66 0), (4, aR 67 0), (5, aI l5)] (lq_c rfl (lq_c rfl (lq_c rfl (lq_c rfl (lq_c rfl (lq_c rfl lq_n)))))) ?_
      exact sn_334_J1064  hi hr h
    replace h := if_f c19 h
    by_cases c20 : ((gI Y.1 68 0 (ix l5)) &&& (nI 63)) = (nI 18)
    · replace h := if_t c20 h
      refine l_swAt k334 18 rfl rfl rfl rfl c20 ?_
      refine l_ls [(0, aR 68 0), (1, aR 0 0), (2, aR 48 0), (3, aR 66 0), (4, aR 67 0), (5, aI l5)] (lq_c rfl (lq_c rfl (lq_c rfl (lq_c rfl (lq_c rfl (lq_c rfl lq_n)))))) ?_
      exact sn_334_J1139  hi hr h
    replace h := if_f c20 h
    by_cases c21 : ((gI Y.1 68 0 (ix l5)) &&& (nI 63)) = (nI 19)
    · replace h := if_t c21 h
      refine l_swAt k334 19 rfl rfl rfl rfl c21 ?_
      refine l_ls [(0, aR 68 0), (1, aR 0 0), (2, aR 48 0), (3, aR 66 0), (4, aR 67 0), (5, aI l5)] (lq_c rfl (lq_c rfl (lq_c rfl (lq_c rfl (lq_c rfl (lq_c rfl lq_n)))))) ?_
      exact sn_334_J1195  hi hr h
    replace h := if_f c21 h
    by_cases c22 : ((gI Y.1 68 0 (ix l5)) &&& (nI 63)) = (nI 20)
    · replace h := if_t c22 h
      refine l_swAt k334 20 rfl rfl rfl rfl c22 ?_
      refine l_ls [(0, aR 68 0), (1, aR 0 0), (2, aR 48 0), (3, aR 66 0), (4, aR 67 0), (5, aI l5)] (lq_c rfl (lq_c rfl (lq_c rfl (lq_c rfl (lq_c rfl (lq_c rfl lq_n)))))) ?_
      exact sn_334_J1208  hi hr h
    replace h := if_f c22 h
    by_cases c23 : ((gI Y.1 68 0 (ix l5)) &&& (nI 63)) = (nI 21)
    · replace h := if_t c23 h
      refine l_swAt k334 21 rfl rfl rfl rfl c23 ?_
      refine l_ls [(0, aR 68 0), (1, aR 0 0), (2, aR 48 0), (3, aR 66 0), (4, aR 67 0), (5, aI l5)] (lq_c rfl (lq_c rfl (lq_c rfl (lq_c rfl (lq_c rfl (lq_c rfl lq_n)))))) ?_
      exact sn_334_J1276  hi hr h
    replace h := if_f c23 h
    by_cases c24 : ((gI Y.1 68 0 (ix l5)) &&& (nI 63)) = (nI 22)
    · replace h := if_t c24 h
      refine l_swAt k334 22 rfl rfl rfl rfl c24 ?_
      refine l_ls [(0, aR 68 0), (1, aR 0 0), (2, aR 48 0), (3, aR 66 0), (4, aR 67 0), (5, aI l5)] (lq_c rfl (lq_c rfl (lq_c rfl (lq_c rfl (lq_c rfl (lq_c rfl lq_n)))))) ?_
      exact sn_334_J1339  hi hr h
    replace h := if_f c24 h
    by_cases c25 : ((gI Y.1 68 0 (ix l5)) &&& (nI 63)) = (nI 23)
    · replace h := if_t c25 h
      refine l_swAt k334 23 rfl rfl rfl rfl c25 ?_
      refine l_ls [(0, aR 68 0), (1, aR 0 0), (2, aR 48 0), (3, aR 66 0), (4, aR 67 0), (5, aI l5)] (lq_c rfl (lq_c rfl (lq_c rfl (lq_c rfl (lq_c rfl (lq_c rfl lq_n)))))) ?_
      exact sn_334_J1352  hi hr h
    replace h := if_f c25 h
    by_cases c26 : ((gI Y.1 68 0 (ix l5)) &&& (nI 63)) = (nI 24)
    · replace h := if_t c26 h
      refine l_swAt k334 24 rfl rfl rfl rfl c26 ?_
      refine l_ls [(0, aR 68 0), (1, aR 0 0), (2, aR 48 0), (3, aR 66 0), (4, aR 67 0), (5, aI l5)] (lq_c rfl (lq_c rfl (lq_c rfl (lq_c rfl (lq_c rfl (lq_c rfl lq_n)))))) ?_
      exact sn_334_J1420  hi hr h
    replace h := if_f c26 h
    by_cases c27 : ((gI Y.1 68 0 (ix l5)) &&& (nI 63)) = (nI 25)
    · replace h := if_t c27 h
      refine l_swAt k334 25 rfl rfl rfl rfl c27 ?_
      refine l_ls [(0, aR 68 0), (1, aR 0 0), (2, aR 48 0), (3, aR 66 0), (4, aR 67 0), (5, aI l5)] (lq_c rfl (lq_c rfl (lq_c rfl (lq_c rfl (lq_c rfl (lq_c rfl lq_n)))))) ?_
      exact sn_334_J1476  hi hr h
    replace h := if_f c27 h
    by_cases c28 : ((gI Y.1 68 0 (ix l5)) &&& (nI 63)) = (nI 26)
    · replace h := if_t c28 h
      refine l_swAt k334 26 rfl rfl rfl rfl c28 ?_
      refine l_ls [(0, aR 68 0), (1, aR 0 0), (2, aR 48 0), (3, aR 66 0), (4, aR 67 0), (5, aI l5)] (lq_c rfl (lq_c rfl (lq_c rfl (lq_c rfl (lq_c rfl (lq_c rfl lq_n)))))) ?_
      exact sn_334_J1532  hi hr h
    replace h := if_f c28 h
    by_cases c29 : ((gI Y.1 68 0 (ix l5)) &&& (nI 63)) = (nI 27)
    · replace h := if_t c29 h
      refine l_swAt k334 27 rfl rfl rfl rfl c29 ?_
      refine l_ls [(0, aR 68 0), (1, aR 0 0), (2, aR 48 0), (3, aR 66 0), (4, aR 67 0), (5, aI l5)] (lq_c rfl (lq_c rfl (lq_c rfl (lq_c rfl (lq_c rfl (lq_c rfl lq_n)))))) ?_
      exact sn_334_J1609  hi hr h
    replace h := if_f c29 h
    by_cases c30 : ((gI Y.1 68 0 (ix l5)) &&& (nI 63)) = (nI 28)
    · replace h := if_t c30 h
      refine l_swAt k334 28 rfl rfl rfl rfl c30 ?_
      refine l_ls [(0, aR 68 0), (1, aR 0 0), (2, aR 48 0), (3, aR 66 0), (4, aR 67 0), (5, aI l5)] (lq_c rfl (lq_c rfl (lq_c rfl (lq_c rfl (lq_c rfl (lq_c rfl lq_n)))))) ?_
      exact sn_334_J1687  hi hr h
    replace h := if_f c30 h
    by_cases c31 : ((gI Y.1 68 0 (ix l5)) &&& (nI 63)) = (nI 29)
    · replace h := if_t c31 h
      refine l_swAt k334 29 rfl rfl rfl rfl c31 ?_
      refine l_ls [(0, aR 68 0), (1, aR 0 0), (2, aR 48 0), (3, aR 66 0), (4, aR 67 0), (5, aI l5)] (lq_c rfl (lq_c rfl (lq_c rfl (lq_c rfl (lq_c rfl (lq_c rfl lq_n)))))) ?_
      exact sn_334_J1700  hi hr h
    replace h := if_f c31 h
    by_cases c32 : ((gI Y.1 68 0 (ix l5)) &&& (nI 63)) = (nI 30)
    · replace h := if_t c32 h
      refine l_swAt k334 30 rfl rfl rfl rfl c32 ?_
      refine l_ls [(0, aR 68 0), (1, aR 0 0), (2, aR 48 0), (3, aR 66 0), (4, aR 67 0), (5, aI l5)] (lq_c rfl (lq_c rfl (lq_c rfl (lq_c rfl (lq_c rfl (lq_c rfl lq_n)))))) ?_
      exact sn_334_J1713  hi hr h
    replace h := if_f c32 h
    by_cases c33 : ((gI Y.1 68 0 (ix l5)) &&& (nI 63)) = (nI 31)
    · replace h := if_t c33 h
      refine l_swAt k334 31 rfl rfl rfl rfl c33 ?_
      refine l_ls [(0, aR 68 0), (1, aR 0 0), (2, aR 48 0), (3, aR 66 0), (4, aR 67 0), (5, aI l5)] (lq_c rfl (lq_c rfl (lq_c rfl (lq_c rfl (lq_c rfl (lq_c rfl lq_n)))))) ?_
      exact sn_334_J1769  hi hr h
    replace h := if_f c33 h
    by_cases c34 : ((gI Y.1 68 0 (ix l5)) &&& (nI 63)) = (nI 32)
    · replace h := if_t c34 h
      refine l_swAt k334 32 rfl rfl rfl rfl c34 ?_
      refine l_ls [(0, aR 68 0), (1, aR 0 0), (2, aR 48 0), (3, aR 66 0), (4, aR 67 0), (5, aI l5)] (lq_c rfl (lq_c rfl (lq_c rfl (lq_c rfl (lq_c rfl (lq_c rfl lq_n)))))) ?_
      exact sn_334_J1849  hi hr h
    replace h := if_f c34 h
    by_cases c35 : ((gI Y.1 68 0 (ix l5)) &&& (nI 63)) = (nI 33)
    · replace h := if_t c35 h
      refine l_swAt k334 33 rfl rfl rfl rfl c35 ?_
      refine l_ls [(0, aR 68 0), (1, aR 0 0), (2, aR 48 0), (3, aR 66 0), (4, aR 67 0), (5, aI l5)] (lq_c rfl (lq_c rfl (lq_c rfl (lq_c rfl (lq_c rfl (lq_c rfl lq_n)))))) ?_
      exact sn_334_J1905  hi hr h
    replace h := if_f c35 h
    by_cases c36 : ((gI Y.1 68 0 (ix l5)) &&& (nI 63)) = (nI 34)
    · replace h := if_t c36 h
      refine l_swAt k334 34 rfl rfl rfl rfl c36 ?_
      refine l_ls [(0, aR 68 0), (1, aR 0 0), (2, aR 48 0), (3, aR 66 0), (4, aR 67 0), (5, aI l5)] (lq_c rfl (lq_c rfl (lq_c rfl (lq_c rfl (lq_c rfl (lq_c rfl lq_n)))))) ?_
      exact sn_334_J1961  hi hr h
    replace h := if_f c36 h
    by_cases c37 : ((gI Y.1 68 0 (ix l5)) &&& (nI 63)) = (nI 35)
    · replace h := if_t c37 h
      refine l_swAt k334 35 rfl rfl rfl rfl c37 ?_
      refine l_ls [(0, aR 68 0), (1, aR 0 0), (2, aR 48 0), (3, aR 66 0), (4, aR 67 0), (5, aI l5)] (lq_c rfl (lq_c rfl (lq_c rfl (lq_c rfl (lq_c rfl (lq_c rfl lq_n)))))) ?_
      exact sn_334_J2029  hi hr h
    replace h := if_f c37 h
    by_cases c38 : ((gI Y.1 68 0 (ix l5)) &&& (nI 63)) = (nI 36)
    · replace h := if_t c38 h
      refine l_swAt k334 36 rfl rfl rfl rfl c38 ?_
      refine l_ls [(0, aR 68 0), (1, aR 0 0), (2, aR 48 0), (3, aR 66 0), (4, aR 67 0), (5, aI l5)] (lq_c rfl (lq_c rfl (lq_c rfl (lq_c rfl (lq_c rfl (lq_c rfl lq_n)))))) ?_
      exact sn_334_J2085  hi hr h
    replace h := if_f c38 h
    by_cases c39 : ((gI Y.1 68 0 (ix l5)) &&& (nI 63)) = (nI 37)
    · replace h := if_t c39 h
      refine l_swAt k334 37 rfl rfl rfl rfl c39 ?_
      refine l_ls [(0, aR 68 0), (1, aR 0 0), (2, aR 48 0), (3, aR 66 0), (4, aR 67 0), (5, aI l5)] (lq_c rfl (lq_c rfl (lq_c rfl (lq_c rfl (lq_c rfl (lq_c rfl lq_n)))))) ?_
      exact sn_334_J2141  hi hr h
    replace h := if_f c39 h
    by_cases c40 : ((gI Y.1 68 0 (ix l5)) &&& (nI 63)) = (nI 38)
    · replace h := if_t c40 h
      refine l_swAt k334 38 rfl rfl rfl rfl c40 ?_
      refine l_ls [(0, aR 68 0), (1, aR 0 0), (2, aR 48 0), (3, aR 66 0), (4, aR 67 0), (5, aI l5)] (lq_c rfl (lq_c rfl (lq_c rfl (lq_c rfl (lq_c rfl (lq_c rfl lq_n)))))) ?_
      exact sn_334_J2209  hi hr h
    replace h := if_f c40 h
    by_cases c41 : ((gI Y.1 68 0 (ix l5)) &&& (nI 63)) = (nI 39)
    · replace h := if_t c41 h
      refine l_swAt k334 39 rfl rfl rfl rfl c41 ?_
      refine l_ls [(0, aR 68 0), (1, aR 0 0), (2, aR 48 0), (3, aR 66 0), (4, aR 67 0), (5, aI l5)] (lq_c rfl (lq_c rfl (lq_c rfl (lq_c rfl (lq_c rfl (lq_c rfl lq_n)))))) ?_
      exact sn_334_J2253  hi hr h
    replace h := if_f c41 h
    by_cases c42 : ((gI Y.1 68 0 (ix l5)) &&& (nI 63)) = (nI 40)
    · replace h := if_t c42 h
      refine l_swAt k334 40 rfl rfl rfl rfl c42 ?_
      refine l_ls [(0, aR 68 0), (1, aR 0 0), (2, aR 48 0), (3, aR 66 0), (4, aR 67 0), (5, aI l5)] (lq_c rfl (lq_c rfl (lq_c rfl (lq_c rfl (lq_c rfl (lq_c rfl lq_n)))))) ?_
      exact sn_334_J2321  hi hr h
    replace h := if_f c42 h
    by_cases c43 : ((gI Y.1 68 0 (ix l5)) &&& (nI 63)) = (nI 41)
    · replace h := if_t c43 h
      refine l_swAt k334 41 rfl rfl rfl rfl c43 ?_
      refine l_ls [(0, aR 68 0), (1, aR 0 0), (2, aR 48 0), (3, aR 66 0), (4, aR 67 0), (5, aI l5)] (lq_c rfl (lq_c rfl (lq_c rfl (lq_c rfl (lq_c rfl (lq_c rfl lq_n)))))) ?_
      exact sn_334_J2389  hi hr h
    replace h := if_f c43 h
    by_cases c44 : ((gI Y.1 68 0 (ix l5)) &&& (nI 63)) = (nI 42)
    · replace h := if_t c44 h
      refine l_swAt k334 42 rfl rfl rfl rfl c44 ?_
      refine l_ls [(0, aR 68 0), (1, aR 0 0), (2, aR 48 0), (3, aR 66 0), (4, aR 67 0), (5, aI l5)] (lq_c rfl (lq_c rfl (lq_c rfl (lq_c rfl (lq_c rfl (lq_c rfl lq_n)))))) ?_
      exact sn_334_J2457  hi hr h
    replace h := if_f c44 h
    by_cases c45 : ((gI Y.1 68 0 (ix l5)) &&& (nI 63)) = (nI 43)
    · replace h := if_t c45 h
      refine l_swAt k334 43 rfl rfl rfl rfl c45 ?_
      refine l_ls [(0, aR 68 0), (1, aR 0 0), (2, aR 48 0), (3, aR 66 0), (4, aR 67 0), (5, aI l5)] (lq_c rfl (lq_c rfl (lq_c rfl (lq_c rfl (lq_c rfl (lq_c rfl lq_n)))))) ?_
      exact sn_334_J2513  hi hr h
    replace h := if_f c45 h
    by_cases c46 : ((gI Y.1 68 0 (ix l5)) &&& (nI 63)) = (nI 44)
    · replace h := if_t c46 h
      refine l_swAt k334 44 rfl rfl rfl rfl c46 ?_
      refine l_ls [(0, aR 68 0), (1, aR 0 0), (2, aR 48 0), (3, aR 66 0), (4, aR 67 0), (5, aI l5)] (lq_c rfl (lq_c rfl (lq_c rfl (lq_c rfl (lq_c rfl (lq_c rfl lq_n)))))) ?_
      exact sn_334_J2569  hi hr h
    replace h := if_f c46 h
    by_cases c47 : ((gI Y.1 68 0 (ix l5)) &&& (nI 63)) = (nI 45)
    · replace h := if_t c47 h
      refine l_swAt k334 45 rfl rfl rfl rfl c47 ?_
      refine l_ls [(0, aR 68 0), (1, aR 0 0), (2, aR 48 0), (3, aR 66 0), (4, aR 67 0), (5, aI l5)] (lq_c rfl (lq_c rfl (lq_c rfl (lq_c rfl (lq_c rfl (lq_c rfl lq_n)))))) ?_
      exact sn_334_J2625  hi hr h
    replace h := if_f c47 h
    by_cases c48 : ((gI Y.1 68 0 (ix l5)) &&& (nI 63)) = (nI 46)
    · replace h := if_t c48 h
      refine l_swAt k334 46 rfl rfl rfl rfl c48 ?_
      refine l_ls [(0, aR 68 0), (1, aR 0 0), (2, aR 48 0), (3, aR 66 0), (4, aR 67 0), (5, aI l5)] (lq_c rfl (lq_c rfl (lq_c rfl (lq_c rfl (lq_c rfl (lq_c rfl lq_n)))))) ?_
      exact sn_334_J2638  hi hr h
    replace h := if_f c48 h
    by_cases c49 : ((gI Y.1 68 0 (ix l5)) &&& (nI 63)) = (nI 47)
    · replace h := if_t c49 h
      refine l_swAt k334 47 rfl rfl rfl rfl c49 ?_
      refine l_ls [(0, aR 68 0), (1, aR 0 0), (2, aR 48 0), (3, aR 66 0), (4, aR 67 0), (5, aI l5)] (lq_c rfl (lq_c rfl (lq_c rfl (lq_c rfl (lq_c rfl (lq_c rfl lq_n)))))) ?_
      exact sn_334_J2651  hi hr h
    replace h := if_f c49 h
    by_cases c50 : ((gI Y.1 68 0 (ix l5)) &&& (nI 63)) = (nI 48)
    · replace h := if_t c50 h
      refine l_swAt k334 48 rfl rfl rfl rfl c50 ?_
      refine l_ls [(0, aR 68 0), (1, aR 0 0), (2, aR 48 0), (3, aR 66 0), (4, aR 67 0), (5, aI l5)] (lq_c rfl (lq_c rfl (lq_c rfl (lq_c rfl (lq_c rfl (lq_c rfl lq_n)))))) ?_
      exact sn_334_J2676  hi hr h
    replace h := if_f c50 h
    by_cases c51 : ((gI Y.1 68 0 (ix l5)) &&& (nI 63)) = (nI 49)
    · replace h := if_t c51 h
      refine l_swAt k334 49 rfl rfl rfl rfl c51 ?_
      refine l_ls [(0, aR 68 0), (1, aR 0 0), (2, aR 48 0), (3, aR 66 0), (4, aR 67 0), (5, aI l5)] (lq_c rfl (lq_c rfl (lq_c rfl (lq_c rfl (lq_c rfl (lq_c rfl lq_n)))))) ?_
      exact sn_334_J2689  hi hr h
    replace h := if_f c51 h
    refine l_swOut k334 rfl rfl rfl (nsw_s (nsw_s (nsw_s (nsw_s (nsw_s (nsw_s (nsw_s (nsw_s (nsw_s (nsw_s (nsw_s (nsw_s (nsw_s (nsw_s (nsw_s (nsw_s (nsw_s (nsw_s (nsw_s (nsw_s (nsw_s (nsw_s (nsw_s (nsw_s (nsw_s (nsw_s (nsw_s (nsw_s (nsw_s (nsw_s (nsw_s (nsw_s (nsw_s (nsw_s (nsw_s (nsw_s (nsw_s (nsw_s (nsw_s (nsw_s (nsw_s (nsw_s (nsw_s (nsw_s (nsw_s (nsw_s (nsw_s (nsw_s (nsw_s (nsw_s nsw_0 c2) c3) c4) c5) c6) c7) c8) c9) c10) c11) c12) c13) c14) c15) c16) c17) c18) c19) c20) c21) c22) c23) c24) c25) c26) c27) c28) c29) c30) c31) c32) c33) c34) c35) c36) c37) c38) c39) c40) c41) c42) c43) c44) c45) c46) c47) c48) c49) c50) c51) ?_
    refine l_sg k334 1 (pc' := 2736) (ls' := [(0, aR 68 0), (1, aR 0 0), (2, aR 48 0), (3, aR 66 0), (4, aR 67 0), (5, aI (l5 + (nI 6)))]) (st' := []) (cs' := []) (fun _ => rfl) al0 ?_
    refine l_sg k334 1 (pc' := 28) (ls' := [(0, aR 68 0), (1, aR 0 0), (2, aR 48 0), (3, aR 66 0), (4, aR 67 0), (5, aI (l5 + (nI 6)))]) (st' := []) (cs' := []) (fun _ => rfl) al0 ?_
    refine l_ls [(0, aR 68 0), (1, aR 0 0), (2, aR 48 0), (3, aR 66 0), (4, aR 67 0), (5, aI (l5 + (nI 6)))] (lq_c rfl (lq_c rfl (lq_c rfl (lq_c rfl (lq_c rfl (lq_c rfl lq_n)))))) ?_
    obtain rfl := Option.some.inj h
    exact l_mono (hi _ _ rfl)
/-- the law's loop -/
theorem sn_334_lp {L B : Nat} {o : Int32 × Sm} {P : Option Av → Sm → Prop} {E : Nat → Sm → Prop} (hr : P (some (aI o.1)) o.2) : ∀ (n : Nat) (l5 : Int32) (Y : Sm), lp (fun s => fn_334_L28 L s.1 s.2) n (l5, Y) = some o → Wl L 16 B (8 * n) 28 [(0, aR 68 0), (1, aR 0 0), (2, aR 48 0), (3, aR 66 0), (4, aR 67 0), (5, aI l5)] [] Y P E := by
  intro n
  induction n with
  | zero => intro l5 Y h; cases h
  | succ n ih =>
    intro l5 Y h
    obtain ⟨q, h, hn⟩ := lp_succ h
    have e9 : 8 * (n + 1) = 8 * n + 8 := by omega
    rw [e9]
    exact sn_334_L28 (fun i Z hq => by subst hq; exact ih i Z (lpn_l hn)) (fun o' hq => by subst hq; obtain rfl := lpn_r hn; exact hr) h
