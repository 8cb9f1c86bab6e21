/-! the law's walk from its entry -/
/-- from the entry, for every script of at most 260 ints, the law comes to its end with true -/
theorem whole_start {p : Program} {e : Env} {s : State} {m : MethodId} {below : List Frame} {meth : Method} {c : Code} (l : Launch) (hflags : l.flags = flags0) {b L : Nat} {xs : Nat → Int32} (hL : L ≤ 260) (hxt : c.exceptionTable.toList = []) (C0 : lw_At p s m meth c b L xs) : W p l e room_1 s m #[Value.ref b] below meth c s.heap [] 0 0 (lw_Z below #[Value.ref b] s) (entryFrame m ([Value.ref b] : List Value).toArray 17) := by
  obtain ⟨hx, hb, hr, hml, hown, hts, hX, hbl, hlocks, hgv⟩ := C0
  have hn : narrow_1.before #[Value.ref b] s = true := by
    rw [Cond.before_and, Bool.and_eq_true] at hgv
    exact hgv.2
  obtain ⟨G, hG1, hKt, hKh, hSX⟩ := G_ex hts hn hX
  have hst : l.stackTraces = false := by
    unfold Launch.stackTraces
    rw [hflags]
    decide +kernel
  have hl := lv_entry ([.ref b]) (n := 17) (Nat.le_of_ble_eq_true rfl)
  rw [lg_entry_eq]
  generalize (lg_sl ([.ref b]) ++ List.replicate (17 - (lg_sl ([.ref b])).length) Slot.unset).toArray = la at hl ⊢
  have hl : lv_has la 17 [(0, .ref b)] := hl
  have C : Cx 300 [] l G p s m #[Value.ref b] meth c := ⟨hx, hb, hml, hown, tt_of hts, hlocks, hr, hst, hxt, fun h => absurd h (by decide +kernel), hKt, hKh⟩
  have hz : ∀ k i, i < cB k → k = 68 ∧ i = 0 := fun k i h => by
    unfold cB at h
    cases hk : Nat.beq k 68 with
    | true =>
      rw [hk] at h
      have h : i < 1 := h
      exact ⟨Nat.eq_of_beq_eq_true hk, by omega⟩
    | false =>
      rw [hk] at h
      exact absurd h (Nat.not_lt_zero _)
  have hzx : ∀ k i, cB k ≤ i → ∀ j, gI (xM xs) k i j = 0 ∧ gJ (xM xs) k i j = 0 ∧ gD (xM xs) k i j = 0 := fun k i h j => by
    refine ⟨if_neg (fun q => ?_), rfl, rfl⟩
    obtain ⟨rfl, rfl⟩ := q
    exact absurd h (by decide +kernel)
  have U : Cu G (fun _ _ => b) allw (cB, rP g0 [], L, 0, 0) (xM xs) s (fun _ _ => b) (cB, rP g0 [], L, 0, 0) (xM xs) s.heap [] 0 0 := by
    refine ⟨⟨fun k i hk => ?_, fun k i k' i' hk hk' _ => ?_, fun k i hk hne => absurd (hz k i hk).1 hne, by rw [hG1]; exact Nat.le_refl _, fun k i j q hk _ hq => ?_⟩, Or.inr hzx, fun k i hk => ⟨rfl, hk⟩, fun k i h1 h2 => absurd h2 (Nat.not_lt.mpr h1), Ag.rf, va_S.rf, Nat.le_refl _, Nat.le_refl _, rfl, fun q hq => ?_⟩
    · obtain ⟨rfl, rfl⟩ := hz k i hk
      refine ⟨fun h6 => (by cases h6), fun _ => ?_⟩
      obtain ⟨scr, h1, h2, h3, h4, h5, h6⟩ := hSX
      refine ⟨scr, h1, h2, h3, h4, h5, fun j hj => ?_⟩
      rw [h6 j hj]
      show some (Value.int (xs j)) = some (Value.int (if 68 = 68 ∧ 0 = 0 then xs j else 0))
      rw [if_pos (And.intro rfl rfl)]
    · obtain ⟨rfl, rfl⟩ := hz k i hk
      obtain ⟨rfl, rfl⟩ := hz k' i' hk'
      exact ⟨rfl, rfl⟩
    · obtain ⟨rfl, rfl⟩ := hz k i hk
      cases hq
    · rcases hq with ⟨k, i, h1, h2, -⟩ | h
      · have := (hz k i h2).1
        subst this
        cases h1
      · show G.2.2.2.1 ≤ q
        rw [hG1]
        exact h
  have K := law_V hL xs (cB, rP g0 [], L, 0, 0) (xM xs) l G (fun _ _ => b) p e s m #[Value.ref b] below meth c C (fun _ _ => b) s.heap [] 0 0 la U hl (fun q hq => by
    rcases List.mem_cons.mp hq with h | h
    · rw [h]; show 0 < cB 68; decide +kernel
    · cases h) (fun v hv => by cases hv)
  intro T hT Y
  obtain ⟨t, a1, o, b1, b2, b3⟩ := K T hT { Y with room := Jvm.Free.hasRoom_mono (Nat.le_of_ble_eq_true rfl) (Nat.le_of_ble_eq_true rfl) (Nat.le_of_ble_eq_true rfl) (Nat.le_of_ble_eq_true rfl) Y.room }
  refine ⟨t, a1, o, b1, b2, ?_⟩
  rcases b3 with ⟨⟨⟨v, ad, z, X', ho, ⟨g, -, -, hv⟩, -⟩, -⟩, Lc, hF, hLc⟩ | ⟨q, -, E, ce, L9, ⟨⟨x, ad, z, X', -, ⟨g, -, -, hv⟩, -⟩, -⟩, -⟩
  · have hv : v = some (aI (nI 1)) := hv
    subst hv
    have hLc2 : ∀ x ∈ Lc, s.heap.size ≤ x.base := fun x hx => by
      rcases hLc x hx with ⟨k, i, h1, h2, -⟩ | h
      · have := (hz k i h2).1
        subst this
        cases h1
      · exact h
    exact ⟨ho, ⟨hF.1, hF.2.1, State.sameButNew.mono (State.sameButNew.drop_fresh (L := []) (J := Lc) hF.2.2 hLc2) (Nat.le_of_ble_eq_true rfl) (Nat.le_of_ble_eq_true rfl)⟩⟩
  · exact hv.elim
