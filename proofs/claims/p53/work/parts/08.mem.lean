/-! the walk's state behind a store -/
theorem cel_ext {G : Gp} {ad ad' : Nat → Nat → Nat} {z z' : Zz} {X X' : Mm} {k i : Nat} (h : ∀ j, gI X' k i j = gI X k i j ∧ gJ X' k i j = gJ X k i j ∧ gD X' k i j = gD X k i j ∧ adq ad' (z'.2.1 k i j) = adq ad (z.2.1 k i j)) (hL : z'.2.2.1 = z.2.2.1) : cel G ad' z' X' k i = cel G ad z X k i := by
  have e1 : gI X' k i = gI X k i := funext fun j => (h j).1
  have e2 : gJ X' k i = gJ X k i := funext fun j => (h j).2.1
  have e3 : gD X' k i = gD X k i := funext fun j => (h j).2.2.1
  have e4 : (fun j => adq ad' (z'.2.1 k i j)) = fun j => adq ad (z.2.1 k i j) := funext fun j => (h j).2.2.2
  have e5 : ∀ c, fv ad' z' X' k i c = fv ad z X k i c := fun c => by
    funext j
    have h4 : adq ad' (z'.2.1 k i j) = adq ad (z.2.1 k i j) := (h j).2.2.2
    simp only [fv, e1, e2, h4]
  have e6 : ∀ t, arc ad' z' X' k i t = arc ad z X k i t := fun t => by
    simp only [arc, e1, e2, e3, e4]
  have e7 : aln z' k = aln z k := by simp only [aln, hL]
  simp only [cel, e5, e6, e7]
theorem aln_o {z : Zz} {k c n : Nat} (h : shp k = (0, c, n)) : aln z k = n := by
  unfold aln
  cases hb : Nat.beq k 68 with
  | true =>
    rw [Nat.eq_of_beq_eq_true hb] at h
    have h2 : shp 68 = (2, 0, 0) := rfl
    rw [h2] at h
    cases h
  | false => rw [h]; rfl
theorem cel_o {G : Gp} {ad : Nat → Nat → Nat} {z : Zz} {X : Mm} {k i c n : Nat} (h : shp k = (0, c, n)) : cel G ad z X k i = .inr (c, (List.range n).map (fv ad z X k i c)) := by
  simp only [cel, h]
theorem cel_a {G : Gp} {ad : Nat → Nat → Nat} {z : Zz} {X : Mm} {k i t n : Nat} (h : shp k = (1, t, n)) : cel G ad z X k i = .inl (G.2.1 t, aln z k, arc ad z X k i t) := by
  simp only [cel, h]
theorem arrV_cg {c : ClassId} {N : Nat} {f g : Nat → Value} (h : ∀ j, j < N → f j = g j) : arrV c N f = arrV c N g := by
  unfold arrV
  have e : (fun j : Fin N => f j.val) = fun j : Fin N => g j.val := funext fun j => h j.val j.isLt
  rw [e]
theorem cel_t {G : Gp} {ad : Nat → Nat → Nat} {z : Zz} {X : Mm} {k i t0 c n : Nat} (h : shp k = (t0 + 1, c, n)) : cel G ad z X k i = .inl (G.2.1 c, aln z k, arc ad z X k i c) := by
  simp only [cel, h]
theorem at_ext {G : Gp} {ad ad' : Nat → Nat → Nat} {z z' : Zz} {X X' : Mm} {k i a : Nat} {H : Heap} (hL : z'.2.2.1 = z.2.2.1) (h : ∀ j, j < aln z k → gI X' k i j = gI X k i j ∧ gJ X' k i j = gJ X k i j ∧ gD X' k i j = gD X k i j ∧ adq ad' (z'.2.1 k i j) = adq ad (z.2.1 k i j)) (hat : va_at G.1 vcl (a, cel G ad z X k i) H) : va_at G.1 vcl (a, cel G ad' z' X' k i) H := by
  have hal : aln z' k = aln z k := by simp only [aln, hL]
  rcases hs : shp k with ⟨t0, c, n⟩
  match t0, hs with
  | 0, hs =>
    have e : (List.range n).map (fv ad' z' X' k i c) = (List.range n).map (fv ad z X k i c) := by
      apply List.map_congr_left
      intro j hj
      obtain ⟨h1, h2, -, h4⟩ := h j (by rw [aln_o hs]; exact List.mem_range.mp hj)
      simp only [fv, h1, h2, h4]
    rw [cel_o hs] at hat ⊢
    rw [e]
    exact hat
  | t0 + 1, hs =>
    rw [cel_t hs] at hat ⊢
    rw [hal]
    have e : vp_cell (G.2.1 c) (aln z k, arc ad' z' X' k i c) = vp_cell (G.2.1 c) (aln z k, arc ad z X k i c) := by
      match c with
      | 0 => exact arrV_cg (f := fun j => Value.int (gI X' k i j)) (g := fun j => Value.int (gI X k i j)) (fun j hj => congrArg Value.int (h j hj).1)
      | 1 => exact arrV_cg (f := fun j => Value.int (gI X' k i j)) (g := fun j => Value.int (gI X k i j)) (fun j hj => congrArg Value.int (h j hj).1)
      | 2 => exact arrV_cg (f := fun j => Value.long (gJ X' k i j)) (g := fun j => Value.long (gJ X k i j)) (fun j hj => congrArg Value.long (h j hj).2.1)
      | 3 => exact arrV_cg (f := fun j => Value.double (gD X' k i j)) (g := fun j => Value.double (gD X k i j)) (fun j hj => congrArg Value.double (h j hj).2.2.1)
      | c + 4 => exact arrV_cg (f := fun j => va_rf (adq ad' (z'.2.1 k i j))) (g := fun j => va_rf (adq ad (z.2.1 k i j))) (fun j hj => congrArg va_rf (h j hj).2.2.2)
    show H[a]? = some (vp_cell (G.2.1 c) (aln z k, arc ad' z' X' k i c))
    rw [e]
    exact hat
theorem n68 {k t c n : Nat} (h : shp k = (t, c, n)) (ht : Nat.ble t 1 = true) : Nat.beq k 68 = false := by
  cases hb : Nat.beq k 68 with
  | false => rfl
  | true =>
    rw [Nat.eq_of_beq_eq_true hb] at h
    have h2 : shp 68 = (2, 0, 0) := rfl
    rw [h2] at h
    cases h
    cases ht
theorem cat.of {G : Gp} {ad : Nat → Nat → Nat} {z : Zz} {X : Mm} {k i a : Nat} {H : Heap} (h6 : Nat.beq k 68 = false) (h : va_at G.1 vcl (a, cel G ad z X k i) H) : cat G ad z X k i a H := ⟨fun _ => h, fun e => by subst e; cases h6⟩
theorem cat.kept {G : Gp} {ad : Nat → Nat → Nat} {z : Zz} {X : Mm} {k i a : Nat} {H H1 : Heap} (h : cat G ad z X k i a H) (e : H1[a]? = H[a]?) : cat G ad z X k i a H1 := ⟨fun h6 => (h.1 h6).kept e, fun e8 => by
  obtain ⟨scr, h1, h2⟩ := h.2 e8
  exact ⟨scr, e.trans h1, h2⟩⟩
theorem cat.lt {G : Gp} {ad : Nat → Nat → Nat} {z : Zz} {X : Mm} {k i a : Nat} {H : Heap} (h : cat G ad z X k i a H) : a < H.size := by
  cases hb : Nat.beq k 68 with
  | false => exact (h.1 hb).lt
  | true =>
    obtain ⟨scr, h1, -⟩ := h.2 (Nat.eq_of_beq_eq_true hb)
    exact (Array.getElem?_eq_some_iff.mp h1).1
theorem cat.ext {G : Gp} {ad ad' : Nat → Nat → Nat} {z z' : Zz} {X X' : Mm} {k i a : Nat} {H : Heap} (hL : z'.2.2.1 = z.2.2.1) (h : ∀ j, j < aln z k → gI X' k i j = gI X k i j ∧ gJ X' k i j = gJ X k i j ∧ gD X' k i j = gD X k i j ∧ adq ad' (z'.2.1 k i j) = adq ad (z.2.1 k i j)) (hc : cat G ad z X k i a H) : cat G ad' z' X' k i a H := ⟨fun h6 => at_ext hL h (hc.1 h6), fun e8 => by
  subst e8
  obtain ⟨scr, h1, h2, h3, h4, h5, h6⟩ := hc.2 rfl
  refine ⟨scr, h1, h2, h3, h4, h5.trans hL.symm, fun j hj => ?_⟩
  rw [hL] at hj
  rw [(h j hj).1]
  exact h6 j hj⟩
theorem Cu.store {G : Gp} {ad0 ad : Nat → Nat → Nat} {wp : Nat → Nat → Prop} {z0 z : Zz} {X0 X : Mm} {s : State} {H H1 : Heap} {locs l2 : List Loc} {cells slots k i : Nat} (U : Cu G ad0 wp z0 X0 s ad z X H locs cells slots) (hk : i < z.1 k) (h6 : Nat.beq k 68 = false) (hw : wp k i) (X' : Mm)
    (hX : ∀ k' i', ¬ (k' = k ∧ i' = i) → ∀ j, gI X' k' i' j = gI X k' i' j ∧ gJ X' k' i' j = gJ X k' i' j ∧ gD X' k' i' j = gD X k' i' j) (e : va_at G.1 vcl (ad k i, cel G ad z X' k i) H1) (hz : H1.size = H.size) (oq : ∀ q : Nat, q ≠ ad k i → H1[q]? = H[q]?) (hl : ∀ q ∈ l2, q.base = ad k i) :
    Cu G ad0 wp z0 X0 s ad z X' H1 (locs ++ l2) cells slots := by
  obtain ⟨⟨h1, h2, h3, h4, h5⟩, hdf, hold, hnew, hag, hS, hc, hs, hL, hA⟩ := U
  have hAa : Afr ad0 z0 wp s.heap.size (ad k i) := by
    by_cases hi : i < z0.1 k
    · exact Or.inl ⟨k, i, hw, hi, (hold k i hi).1⟩
    · exact Or.inr (hnew k i (by omega) hk)
  refine ⟨⟨fun k' i' hk' => ?_, h2, h3, by rw [hz]; exact h4, h5⟩, hdf.imp id (fun hdf k' i' hk' j => ?_), hold, hnew, fun k' i' hn j => ?_, ⟨by rw [hz]; exact hS.1, fun q hq hn => ?_, fun q hq => ?_⟩, hc, hs, hL, hA⟩
  · by_cases heq : k' = k ∧ i' = i
    · rw [heq.1, heq.2]; exact .of h6 e
    · have hne : ad k' i' ≠ ad k i := fun hh => heq (h2 k' i' k i hk' hk hh)
      exact cat.ext (X := X) (ad := ad) (z := z) rfl (fun j _ => ⟨(hX k' i' heq j).1, (hX k' i' heq j).2.1, (hX k' i' heq j).2.2, rfl⟩) ((h1 k' i' hk').kept (oq _ hne))
  · have heq : ¬ (k' = k ∧ i' = i) := fun hh => by rw [hh.1, hh.2] at hk'; omega
    obtain ⟨a1, a2, a3⟩ := hX k' i' heq j
    obtain ⟨b1, b2, b3⟩ := hdf k' i' hk' j
    exact ⟨a1.trans b1, a2.trans b2, a3.trans b3⟩
  · have heq : ¬ (k' = k ∧ i' = i) := fun hh => by rw [hh.1, hh.2] at hn; exact hn hw
    obtain ⟨a1, a2, a3⟩ := hX k' i' heq j
    obtain ⟨b1, b2, b3⟩ := hag k' i' hn j
    exact ⟨a1.trans b1, a2.trans b2, a3.trans b3⟩
  · rw [oq q (fun hh => hn (by rw [hh]; exact hAa))]
    exact hS.2.1 q hq hn
  · rcases List.mem_append.mp hq with h | h
    · exact hS.2.2 q h
    · rw [hl q h]; exact hAa
theorem uI_off {X : Mm} {k i j : Nat} {v : Int32} {k' i' : Nat} (h : ¬ (k' = k ∧ i' = i)) (j' : Nat) : gI (uI X k i j v) k' i' j' = gI X k' i' j' ∧ gJ (uI X k i j v) k' i' j' = gJ X k' i' j' ∧ gD (uI X k i j v) k' i' j' = gD X k' i' j' :=
  ⟨if_neg fun q => h ⟨q.1, q.2.1⟩, rfl, rfl⟩
theorem uJ_off {X : Mm} {k i j : Nat} {v : Int64} {k' i' : Nat} (h : ¬ (k' = k ∧ i' = i)) (j' : Nat) : gI (uJ X k i j v) k' i' j' = gI X k' i' j' ∧ gJ (uJ X k i j v) k' i' j' = gJ X k' i' j' ∧ gD (uJ X k i j v) k' i' j' = gD X k' i' j' :=
  ⟨rfl, if_neg fun q => h ⟨q.1, q.2.1⟩, rfl⟩
theorem uD_off {X : Mm} {k i j : Nat} {v : UInt64} {k' i' : Nat} (h : ¬ (k' = k ∧ i' = i)) (j' : Nat) : gI (uD X k i j v) k' i' j' = gI X k' i' j' ∧ gJ (uD X k i j v) k' i' j' = gJ X k' i' j' ∧ gD (uD X k i j v) k' i' j' = gD X k' i' j' :=
  ⟨rfl, rfl, if_neg fun q => h ⟨q.1, q.2.1⟩⟩
theorem cI_off {X : Mm} {ks is sp k i dp n : Nat} {k' i' : Nat} (h : ¬ (k' = k ∧ i' = i)) (j' : Nat) : gI (cI X ks is sp k i dp n) k' i' j' = gI X k' i' j' ∧ gJ (cI X ks is sp k i dp n) k' i' j' = gJ X k' i' j' ∧ gD (cI X ks is sp k i dp n) k' i' j' = gD X k' i' j' :=
  ⟨if_neg h, rfl, rfl⟩
theorem cJ_off {X : Mm} {ks is sp k i dp n : Nat} {k' i' : Nat} (h : ¬ (k' = k ∧ i' = i)) (j' : Nat) : gI (cJ X ks is sp k i dp n) k' i' j' = gI X k' i' j' ∧ gJ (cJ X ks is sp k i dp n) k' i' j' = gJ X k' i' j' ∧ gD (cJ X ks is sp k i dp n) k' i' j' = gD X k' i' j' :=
  ⟨rfl, if_neg h, rfl⟩
theorem uI_upd {X : Mm} {k i j : Nat} {v : Int32} : gI (uI X k i j v) k i = upd (gI X k i) j v := by
  funext q
  show (if k = k ∧ i = i ∧ q = j then v else X.1 k i q) = if q = j then v else X.1 k i q
  simp
theorem uJ_upd {X : Mm} {k i j : Nat} {v : Int64} : gJ (uJ X k i j v) k i = vp_updL (gJ X k i) j v := by
  funext q
  show (if k = k ∧ i = i ∧ q = j then v else X.2.1 k i q) = if q = j then v else X.2.1 k i q
  simp
theorem uD_upd {X : Mm} {k i j : Nat} {v : UInt64} : gD (uD X k i j v) k i = vf_upd (gD X k i) j v := by
  funext q
  show (if k = k ∧ i = i ∧ q = j then v else X.2.2 k i q) = if q = j then v else X.2.2 k i q
  simp
theorem cI_cpy {X : Mm} {ks is sp k i dp n : Nat} : gI (cI X ks is sp k i dp n) k i = va_cpy (gI X ks is) (gI X k i) sp dp n := by
  funext q
  show (if k = k ∧ i = i then va_cpy (X.1 ks is) (X.1 k i) sp dp n q else X.1 k i q) = _
  simp
  rfl
theorem cJ_cpy {X : Mm} {ks is sp k i dp n : Nat} : gJ (cJ X ks is sp k i dp n) k i = va_cpy (gJ X ks is) (gJ X k i) sp dp n := by
  funext q
  show (if k = k ∧ i = i then va_cpy (X.2.1 ks is) (X.2.1 k i) sp dp n q else X.2.1 k i q) = _
  simp
  rfl
theorem vcl_at {c : Nat} (h : c < vcl.length) : vcl[c]? = some (vck c) := by
  unfold vck
  rw [List.getD_eq_getElem?_getD, List.getElem?_eq_getElem h]
  rfl
theorem sub1 {G : Gp} {ad : Nat → Nat → Nat} {z : Zz} {X : Mm} {H : Heap} {k i : Nat} (h : Hp G ad z X H) (h6 : Nat.beq k 68 = false) (hk : i < z.1 k) : va_P G.1 vcl [(ad k i, cel G ad z X k i)] H := by
  intro n q hq
  match n, hq with
  | 0, hq => cases hq; exact (h.1 k i hk).1 h6
  | n + 1, hq => simp at hq
theorem fv_at {ad : Nat → Nat → Nat} {z : Zz} {X : Mm} {k i c n b : Nat} (h : b < n) : ((List.range n).map (fv ad z X k i c))[b]? = some (fv ad z X k i c b) := by
  simp [h]
theorem cat_cv (G : Gp) (ad : Nat → Nat → Nat) (w : Av) : (cv G ad w).category = 2 ↔ cat2 w = true := by
  rcases w with x | x | x | x | x | x | x <;> first | (simp [cv, cat2, Value.category]; done) | (simp only [cv]; cases Nat.beq x 0 <;> simp [cat2, Value.category])
theorem cat_cv1 {G : Gp} {ad : Nat → Nat → Nat} {w : Av} (h : cat2 w = false) : (cv G ad w).category = 1 := by
  rcases w with x | x | x | x | x | x | x <;> first | (simp [cv, cat2, Value.category] at h ⊢; done) | (simp only [cv]; cases Nat.beq x 0 <;> simp [Value.category])
theorem rf_cv (G : Gp) (ad : Nat → Nat → Nat) {w : Av} (h : isRf w = true) : ∃ a : Nat, cv G ad w = .ref a := by
  rcases w with x | x | x | x | x | x | x <;> simp [cv, isRf] at h ⊢
theorem lget_mem {i : Nat} {w : Av} : ∀ {ls : Lo}, lget i ls = some w → (i, w) ∈ ls
  | [], h => by cases h
  | (j, u) :: t, h => by
    unfold lget at h
    cases hb : Nat.beq i j with
    | true =>
      rw [hb] at h
      have hij := Nat.eq_of_beq_eq_true hb
      cases h
      rw [hij]; exact List.mem_cons_self
    | false =>
      rw [hb] at h
      exact List.mem_cons_of_mem _ (lget_mem h)
theorem lget_la {G : Gp} {ad : Nat → Nat → Nat} {la : Array Slot} {n i : Nat} {w : Av} {ls : Lo} (hl : lv_has la n (ls.map (cvq G ad))) (h : lget i ls = some w) : la[i]? = some (.val (cv G ad w)) :=
  hl.2.2 (i, cv G ad w) (List.mem_map.mpr ⟨(i, w), lget_mem h, rfl⟩)
theorem lset_mem {i : Nat} {v : Av} {q : Nat × Av} : ∀ {ls : Lo}, q ∈ lset i v ls → q = (i, v) ∨ (q ∈ ls ∧ okE i v q = true)
  | [], h => by
    unfold lset at h
    exact Or.inl (List.mem_singleton.mp h)
  | p :: t, h => by
    unfold lset at h
    cases hb : Nat.beq p.1 i with
    | true =>
      rw [hb] at h
      rcases List.mem_cons.mp h with h | h
      · exact Or.inl h
      · obtain ⟨h1, h2⟩ := List.mem_filter.mp h
        exact Or.inr ⟨List.mem_cons_of_mem _ h1, h2⟩
    | false =>
      rw [hb] at h
      cases ho : okE i v p with
      | true =>
        rw [ho] at h
        rcases List.mem_cons.mp h with h | h
        · rw [h]; exact Or.inr ⟨List.mem_cons_self, ho⟩
        · rcases lset_mem h with h | ⟨h1, h2⟩
          · exact Or.inl h
          · exact Or.inr ⟨List.mem_cons_of_mem _ h1, h2⟩
      | false =>
        rw [ho] at h
        rcases lset_mem h with h | ⟨h1, h2⟩
        · exact Or.inl h
        · exact Or.inr ⟨List.mem_cons_of_mem _ h1, h2⟩
theorem beq_eq (a b : Nat) : (a == b) = Nat.beq a b := by
  cases h : Nat.beq a b with
  | true => rw [Nat.eq_of_beq_eq_true h]; simp
  | false => exact beq_false_of_ne (Nat.ne_of_beq_eq_false h)
theorem b22 : Nat.beq 2 2 = true := rfl
theorem b12 : Nat.beq 1 2 = false := rfl
theorem lset_has1 {G : Gp} {ad : Nat → Nat → Nat} {la : Array Slot} {n i : Nat} {v : Av} {ls : Lo} (hv : cat2 v = false) (h : lv_has la n ((i, cv G ad v) :: (ls.map (cvq G ad)).filter (fun q => !(q.1 == i) && !(q.1 + 1 == i && q.2.category == 2)))) : lv_has la n ((lset i v ls).map (cvq G ad)) := by
  refine ⟨h.1, h.2.1, fun q hq => ?_⟩
  obtain ⟨p, hp, rfl⟩ := List.mem_map.mp hq
  rcases lset_mem hp with h1 | ⟨h1, h2⟩
  · rw [h1]; exact h.2.2 _ List.mem_cons_self
  · refine h.2.2 _ (List.mem_cons_of_mem _ (List.mem_filter.mpr ⟨List.mem_map.mpr ⟨p, h1, rfl⟩, ?_⟩))
    unfold okE at h2
    simp only [cvq, beq_eq]
    simp only [hv, Bool.false_and, Bool.not_false, Bool.and_true] at h2
    by_cases hc : cat2 p.2 = true
    · rw [(cat_cv G ad p.2).mpr hc]; rw [hc] at h2; simpa [b22] using h2
    · have h3 : cat2 p.2 = false := by simpa using hc
      rw [cat_cv1 h3]; rw [h3] at h2; simpa [b12] using h2
theorem lset_has2 {G : Gp} {ad : Nat → Nat → Nat} {la : Array Slot} {n i : Nat} {v : Av} {ls : Lo} (hv : cat2 v = true) (h : lv_has la n ((i, cv G ad v) :: (ls.map (cvq G ad)).filter (fun q => !(q.1 == i) && (!(q.1 == i + 1) && !(q.1 + 1 == i && q.2.category == 2))))) : lv_has la n ((lset i v ls).map (cvq G ad)) := by
  refine ⟨h.1, h.2.1, fun q hq => ?_⟩
  obtain ⟨p, hp, rfl⟩ := List.mem_map.mp hq
  rcases lset_mem hp with h1 | ⟨h1, h2⟩
  · rw [h1]; exact h.2.2 _ List.mem_cons_self
  · refine h.2.2 _ (List.mem_cons_of_mem _ (List.mem_filter.mpr ⟨List.mem_map.mpr ⟨p, h1, rfl⟩, ?_⟩))
    unfold okE at h2
    simp only [cvq, beq_eq]
    simp only [hv, Bool.true_and] at h2
    by_cases hc : cat2 p.2 = true
    · rw [(cat_cv G ad p.2).mpr hc]; rw [hc] at h2
      simp only [Bool.and_eq_true, Bool.and_true, b22] at h2 ⊢
      exact ⟨h2.1, h2.2.2, h2.2.1⟩
    · have h3 : cat2 p.2 = false := by simpa using hc
      rw [cat_cv1 h3]; rw [h3] at h2
      simp only [Bool.and_false, Bool.not_false, Bool.true_and, Bool.and_eq_true] at h2 ⊢
      exact ⟨h2.1, h2.2, by simp [b12]⟩
theorem okl_set {z : Zz} {i : Nat} {v : Av} {ls : Lo} (h : okl z ls) (hv : okv z v) : okl z (lset i v ls) := fun q hq => by
  rcases lset_mem hq with h1 | ⟨h1, -⟩
  · rw [h1]; exact hv
  · exact h q h1
theorem oks_t {z : Zz} {v : Av} {st : List Av} (h : oks z (v :: st)) : oks z st := fun u hu => h u (List.mem_cons_of_mem _ hu)
theorem oks_c {z : Zz} {v : Av} {st : List Av} (hv : okv z v) (h : oks z st) : oks z (v :: st) := fun u hu => by
  rcases List.mem_cons.mp hu with h1 | h1
  · rw [h1]; exact hv
  · exact h u h1
theorem oks_h {z : Zz} {v : Av} {st : List Av} (h : oks z (v :: st)) : okv z v := h v List.mem_cons_self
theorem okl_get {z : Zz} {i : Nat} {w : Av} {ls : Lo} (h : okl z ls) (hg : lget i ls = some w) : okv z w := h _ (lget_mem hg)
