/-! the law's walk from its entry -/
def g3 : Nat → Nat := ug g2 1000 0
theorem cF_g3 : cF g3 = nF := by
  unfold cF g3
  rw [ug_at, if_neg (by decide), if_neg (by decide)]
theorem sr_g3 {k i j : Nat} (h : i < nF k) : sr g3 k i j = sr g2 k i j := by
  refine sr_cg (fun _ => ?_) (fun _ => ?_) (fun h21 => ?_)
  · unfold sr0 g3
    rw [ug_ne (by decide : (0 : Nat) ≠ 1000), ug_ne (by decide : (1 : Nat) ≠ 1000)]
  · unfold sr3 g3
    rw [ug_ne (by decide : (2 : Nat) ≠ 1000)]
  · subst h21
    have h : i < 11 := h
    unfold sr21 g3
    rw [ug_ne (by omega : i + 3 ≠ 1000)]
theorem nF_end : inc (inc nF2 66) 67 = nF := by
  funext a
  by_cases h : a < 69
  · have : ∀ a, a < 69 → inc (inc nF2 66) 67 a = nF a := by decide +kernel
    exact this a h
  · rw [inc_ge (by omega) rfl (inc_ge (by omega) rfl (nF2_ge (by omega)))]
    unfold nF
    rw [List.getD_eq_getElem?_getD, List.getElem?_eq_none (show nFl.length ≤ a from Nat.le_of_not_lt h)]
    rfl
/-- what the law answers -/
abbrev lawP : Option Av → Sm → Prop := fun w _ => w = some (aI (nI 1))
theorem law_V {L : Nat} (hL : L ≤ 3072) (xs : Nat → Int32) (z0 : Zz) (X0 : Mm) : V 334 [] 16 8800 (6 * 8800) allw z0 X0 (qn lawP) (qn nX) (cB, rP g0 [], L, 0, 0) 0 [(0, aR 68 0)] [] (xM xs) := by
  obtain ⟨T, Z, hT2, c103, c162, hZ2, hRR⟩ := both_ct xs
  obtain ⟨T1, T2⟩ := T
  obtain ⟨Z1, Z2⟩ := Z
  have hT2 : T2 = g0 := hT2
  have hZ2 : Z2 = g2 := hZ2
  subst hT2
  subst hZ2
  have ho : okp [] 9 := okp_n
  refine k_new k334 0 0 (by decide +kernel) rfl rfl rfl rfl (by decide +kernel) rfl ?_
  refine v_seg k334 1 (pc' := 4) (ls' := [(0, aR 68 0)]) (st' := [aR 0 0, aR 0 0]) (X' := xM xs) (cs' := []) rfl trivial ?_
  refine k_call k334 (st := [aR 0 0]) rfl (c103 L) rfl rfl rfl rfl rfl ?_
  refine v_refs nF1 (rP g0 []) (show nF1 = cF g0 from (if_pos rfl).symm) (fun _ _ _ _ => rfl) ?_
  refine v_seg k334 1 (pc' := 8) (ls' := [(0, aR 68 0), (1, aR 0 0)]) (st' := []) (X' := T1) (cs' := []) rfl trivial ?_
  refine k_new k334 48 0 (by decide +kernel) rfl rfl rfl rfl (by decide +kernel) rfl ?_
  refine v_seg k334 1 (pc' := 12) (ls' := [(0, aR 68 0), (1, aR 0 0)]) (st' := [aR 48 0, aR 48 0]) (X' := T1) (cs' := []) rfl trivial ?_
  refine k_call k334 (st := [aR 48 0]) rfl (c162 L) rfl rfl rfl rfl rfl ?_
  refine v_refs nF2 (rP g2 []) cF_g2.symm (fun _ _ _ _ => rfl) ?_
  refine v_seg k334 2 (pc' := 17) (ls' := [(0, aR 68 0), (1, aR 0 0), (2, aR 48 0)]) (st' := [aI (1 : Int32)]) (X' := Z1) (cs' := []) rfl trivial ?_
  refine k_arL (m := 9) k334 66 0 (by decide +kernel) ho rfl rfl rfl rfl (fun _ _ => rfl) rfl rfl (n66 (by decide +kernel)) rfl ?_
  refine v_seg k334 2 (pc' := 21) (ls' := [(0, aR 68 0), (1, aR 0 0), (2, aR 48 0), (3, aR 66 0)]) (st' := [aI (1 : Int32)]) (X' := Z1) (cs' := []) rfl trivial ?_
  refine k_arD (m := 9) k334 67 0 (by decide +kernel) ho rfl rfl rfl rfl (fun _ _ => rfl) rfl rfl (fun e => absurd (congrFun e 67) (by decide +kernel)) rfl ?_
  refine v_seg k334 3 (pc' := 28) (ls' := [(0, aR 68 0), (1, aR 0 0), (2, aR 48 0), (3, aR 66 0), (4, aR 67 0), (5, aI (nI 0))]) (st' := []) (X' := Z1) (cs' := []) rfl trivial ?_
  refine v_refs (cF g3) (sr g3) (by rw [cF_g3]; exact nF_end.symm) (fun k i j hi => ?_) ?_
  · have hi : i < inc (inc nF2 66) 67 k := hi
    rw [nF_end] at hi
    exact sr_g3 hi
  refine v_up 4000 (6 * 4000) (Nat.le_of_ble_eq_true rfl) (Nat.le_of_ble_eq_true rfl) ?_
  obtain ⟨Zf, hlp⟩ := law_lp hL 512 0 600 (Z1, g3) (by omega) (by omega) (by omega) (hRR.tm (g := g3) (fun a ha => ug_ne (by omega)))
  exact (sn_334_lp (L := L) (B := 8800) (P := lawP) (E := nX) (o := (nI 1, Zf)) rfl 600 (nI 0) (Z1, g3) hlp) z0 X0 4000 (by omega)
/-- from the entry, for every script of at most 3072 ints, the law comes to its end with true -/
theorem whole_start {p : Program} {e : Env} {s : State} {m : MethodId} {below : List Frame} {meth : Method} {c : Code} (l : Launch) (hflags : l.flags = flags0) {b L : Nat} {xs : Nat → Int32} (hL : L ≤ 3072) (hxt : c.exceptionTable.toList = []) (C0 : lw_At p s m meth c b L xs) : W p l e room_1 s m #[Value.ref b] below meth c s.heap [] 0 0 (lw_Z below #[Value.ref b] s) (entryFrame m ([Value.ref b] : List Value).toArray 9) := by
  obtain ⟨hx, hb, hr, hml, hown, hts, hX, hbl, hlocks, hgv⟩ := C0
  have hn : narrow_1.before #[Value.ref b] s = true := by
    rw [Cond.before_and, Bool.and_eq_true] at hgv
    exact hgv.2
  obtain ⟨G, hG1, hKt, hKh, hSX⟩ := G_ex hts hn hX
  have hst : l.stackTraces = false := by
    unfold Launch.stackTraces
    rw [hflags]
    decide +kernel
  have hl := lv_entry ([.ref b]) (n := 9) (Nat.le_of_ble_eq_true rfl)
  rw [lg_entry_eq]
  generalize (lg_sl ([.ref b]) ++ List.replicate (9 - (lg_sl ([.ref b])).length) Slot.unset).toArray = la at hl ⊢
  have hl : lv_has la 9 [(0, .ref b)] := hl
  have C : Cx 334 [] l G p s m #[Value.ref b] meth c := ⟨hx, hb, hml, hown, fun w hw => hts w (List.mem_filter.mp hw).1, hlocks, hr, hst, hxt, fun h => absurd h (by decide +kernel), hKt, hKh⟩
  have hz : ∀ k i, i < cB k → k = 68 ∧ i = 0 := fun k i h => by
    unfold cB at h
    cases hk : Nat.beq k 68 with
    | true =>
      rw [hk] at h
      have h : i < 1 := h
      exact ⟨Nat.eq_of_beq_eq_true hk, by omega⟩
    | false =>
      rw [hk] at h
      exact absurd h (Nat.not_lt_zero _)
  have hzx : ∀ k i, cB k ≤ i → ∀ j, gI (xM xs) k i j = 0 ∧ gJ (xM xs) k i j = 0 ∧ gD (xM xs) k i j = 0 := fun k i h j => by
    refine ⟨if_neg (fun q => ?_), rfl, rfl⟩
    obtain ⟨rfl, rfl⟩ := q
    exact absurd h (by decide +kernel)
  have U : Cu G (fun _ _ => b) allw (cB, rP g0 [], L, 0, 0) (xM xs) s (fun _ _ => b) (cB, rP g0 [], L, 0, 0) (xM xs) s.heap [] 0 0 := by
    refine ⟨⟨fun k i hk => ?_, fun k i k' i' hk hk' _ => ?_, fun k i hk hne => absurd (hz k i hk).1 hne, by rw [hG1]; exact Nat.le_refl _, fun k i j q hk _ hq => ?_⟩, Or.inr hzx, fun k i hk => ⟨rfl, hk⟩, fun k i h1 h2 => absurd h2 (Nat.not_lt.mpr h1), Ag.rf, va_S.rf, Nat.le_refl _, Nat.le_refl _, rfl, fun q hq => ?_⟩
    · obtain ⟨rfl, rfl⟩ := hz k i hk
      refine ⟨fun h6 => (by cases h6), fun _ => ?_⟩
      obtain ⟨scr, h1, h2, h3, h4, h5, h6⟩ := hSX
      refine ⟨scr, h1, h2, h3, h4, h5, fun j hj => ?_⟩
      rw [h6 j hj]
      show some (Value.int (xs j)) = some (Value.int (if 68 = 68 ∧ 0 = 0 then xs j else 0))
      rw [if_pos (And.intro rfl rfl)]
    · obtain ⟨rfl, rfl⟩ := hz k i hk
      obtain ⟨rfl, rfl⟩ := hz k' i' hk'
      exact ⟨rfl, rfl⟩
    · obtain ⟨rfl, rfl⟩ := hz k i hk
      cases hq
    · rcases hq with ⟨k, i, h1, h2, -⟩ | h
      · have := (hz k i h2).1
        subst this
        cases h1
      · show G.2.2.2.1 ≤ q
        rw [hG1]
        exact h
  have K := law_V hL xs (cB, rP g0 [], L, 0, 0) (xM xs) l G (fun _ _ => b) p e s m #[Value.ref b] below meth c C (fun _ _ => b) s.heap [] 0 0 la U hl (fun q hq => by
    rcases List.mem_cons.mp hq with h | h
    · rw [h]; show 0 < cB 68; decide +kernel
    · cases h) (fun v hv => by cases hv)
  intro T hT Y
  obtain ⟨t, a1, o, b1, b2, b3⟩ := K T hT { Y with room := Jvm.Free.hasRoom_mono (Nat.le_of_ble_eq_true rfl) (Nat.le_of_ble_eq_true rfl) (Nat.le_of_ble_eq_true rfl) (Nat.le_of_ble_eq_true rfl) Y.room }
  refine ⟨t, a1, o, b1, b2, ?_⟩
  rcases b3 with ⟨⟨⟨v, ad, z, X', ho, ⟨g, -, -, hv⟩, -⟩, -⟩, Lc, hF, hLc⟩ | ⟨q, -, E, ce, L9, ⟨⟨x, ad, z, X', -, ⟨g, -, -, hv⟩, -⟩, -⟩, -⟩
  · have hv : v = some (aI (nI 1)) := hv
    subst hv
    have hLc2 : ∀ x ∈ Lc, s.heap.size ≤ x.base := fun x hx => by
      rcases hLc x hx with ⟨k, i, h1, h2, -⟩ | h
      · have := (hz k i h2).1
        subst this
        cases h1
      · exact h
    exact ⟨ho, lw_closed (Drawn.sameBut.refl s.drawn lw_cs) hF.1 hF.2.1 (State.sameButNew.mono (State.sameButNew.drop_fresh (L := []) (J := Lc) hF.2.2 hLc2) (Nat.le_of_ble_eq_true rfl) (Nat.le_of_ble_eq_true rfl))⟩
  · exact hv.elim
