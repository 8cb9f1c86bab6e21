/-! the law's entry: what the tables and the start say -/
/-- where the text of the constant o stands first -/
def fstO (o : Nat) : Nat := dxl.findIdx (fun x => Nat.beq x (dxl.getD o 0))
def tmO (o : Nat) : Term := Term.string (RN (stl.getD o (0, 0, "")).1) (stl.getD o (0, 0, "")).2.1
def tmV (o : Nat) : Term := Term.field (tmO o) "java/lang/String" "value" "[B"
/-- what the start says of the constant o -/
def txC (o : Nat) : List Cond := [Cond.exactly (tmO o) "java/lang/String", Cond.eq (.field (tmO o) "java/lang/String" "coder" "B") (.int 0), Cond.arrayOf (tmV o) .byte, Cond.eq (.length (tmV o)) (.int (Int32.ofNat (slen (dxl.getD o 0))))] ++ ((List.range (slen (dxl.getD o 0))).map (fun j => Cond.eq (.elem (tmV o) (.int (Int32.ofNat j))) (.int ((txb (dxl.getD o 0)).getD j 0))) ++ ((List.range o).filter (fun x => Nat.beq (dxl.getD x 0) (dxl.getD o 0))).map (fun x => Cond.eq (tmO x) (tmO o)))
theorem tx_ok : ((flatC narrow_1).drop 215).take 743 = (List.range 63).flatMap txC := by decide +kernel
theorem fst_le : ∀ o, o < 63 → fstO o ≤ o := by decide +kernel
theorem dx_lt : ∀ o, o < 63 → dxl.getD o 0 < txn ∧ fstO o < 63 ∧ dxl.getD (fstO o) 0 = dxl.getD o 0 ∧ fstO (fstO o) = fstO o := by decide +kernel
theorem dx_on : ∀ i, i < txn → ∃ o, o < 63 ∧ fstO o = o ∧ dxl.getD o 0 = i := by decide +kernel
theorem tx_dif : ∀ i, i < txn → ∀ j, j < txn → txb i = txb j → i = j := by decide +kernel
section TXT
variable {args : Array Value} {s : State} {A : Nat → Prop}
theorem tx_in (h : narrow_1.before args s = true) {o : Nat} (ho : o < 63) {w : Cond} (hw : w ∈ txC o) : w.before args s = true := by
  refine flat_of_before narrow_1 h w (List.mem_of_mem_drop (i := 215) (List.mem_of_mem_take (i := 743) ?_))
  rw [tx_ok]
  exact List.mem_flatMap.mpr ⟨o, List.mem_range.mpr ho, hw⟩
theorem tx_at (h : narrow_1.before args s = true) (hA : ∀ a : Nat, a < s.heap.size → ¬ A a) {o : Nat} (ho : o < 63) : ∃ q : Nat × Nat, (tmO o).eval args s none [] s = some (.ref q.1) ∧ va_O "java/lang/String" q.1 A s s.heap ∧ va_OF "java/lang/String" "coder" "B" (.int 0) q.1 A s s.heap ∧ va_OF "java/lang/String" "value" "[B" (.ref q.2) q.1 A s s.heap ∧ va_T .byte q.2 (slen (dxl.getD o 0)) (fun j => .int ((txb (dxl.getD o 0)).getD j 0)) A s s.heap := by
  have hl := (txt_ok _ (dx_lt o ho).1).1
  obtain ⟨adK, adV, hS, hev⟩ := vk_Sof (args := args) (s := s) (N := 1) (tm := fun _ => tmO o) (len := [slen (dxl.getD o 0)]) (byt := [txb (dxl.getD o 0)]) (A := A) (fun i hi => by
      obtain rfl : i = 0 := by omega
      exact hl) (fun i hi => tx_in h ho (by unfold txC; simp)) (fun i hi => tx_in h ho (by unfold txC; simp)) (fun i hi => tx_in h ho (by unfold txC tmV; simp)) (fun i hi => by
      obtain rfl : i = 0 := by omega
      exact tx_in h ho (by unfold txC tmV; simp)) (fun i hi j hj => by
      obtain rfl : i = 0 := by omega
      have hj : j < slen (dxl.getD o 0) := hj
      exact tx_in h ho (List.mem_append_right _ (List.mem_append_left _ (List.mem_map.mpr ⟨j, List.mem_range.mpr hj, rfl⟩)))) (fun i j hi hj hne => absurd (show i = j by omega) hne) hA
  obtain ⟨a1, a2, a3, a4⟩ := hS.1 0 (by omega)
  exact ⟨(adK 0, adV 0), hev 0 (by omega), a1, a2, a3, a4⟩
theorem tx_dist {U : State} {H : Heap} {i j a t t' : Nat} (hi : i < txn) (hj : j < txn) (v1 : va_OF "java/lang/String" "value" "[B" (.ref t) a A U H) (v2 : va_OF "java/lang/String" "value" "[B" (.ref t') a A U H) (h1 : va_T .byte t (slen i) (fun k => .int ((txb i).getD k 0)) A U H) (h2 : va_T .byte t' (slen j) (fun k => .int ((txb j).getD k 0)) A U H) : i = j := by
  obtain ⟨cf, k, q, f, cell, a1, -, a3, -, a5, -⟩ := v1
  obtain ⟨cf', k', q', f', cell', b1, -, b3, -, b5, -⟩ := v2
  have e1 := Option.some.inj (a1.symm.trans b1)
  obtain ⟨rfl, rfl, rfl, rfl⟩ : cf = cf' ∧ k = k' ∧ q = q' ∧ f = f' := by simpa using e1
  cases Option.some.inj (a3.symm.trans b3)
  have e2 := Option.some.inj (a5.symm.trans b5)
  have e3 : t = t' := by injection e2
  subst e3
  obtain ⟨c1, g1, -, -, g4, g5, g6, -⟩ := h1
  obtain ⟨c2, d1, -, -, d4, d5, d6, -⟩ := h2
  cases Option.some.inj (g1.symm.trans d1)
  have hl : slen i = slen j := by
    have e := g5.symm.trans d5
    have e' := congrArg Int32.toNatClampNeg e
    exact (nI_clamp (txt_ok i hi).1).symm.trans (e'.trans (nI_clamp (txt_ok j hj).1))
  refine tx_dif i hi j hj (List.ext_getElem? fun n => ?_)
  by_cases hn : n < slen i
  · have e := Option.some.inj ((g6 n hn).symm.trans (d6 n (by omega)))
    have e' : (txb i).getD n 0 = (txb j).getD n 0 := by injection e
    have h3 : n < (txb i).length := hn
    have h4 : n < (txb j).length := by have := hl ▸ hn; exact this
    rw [List.getD_eq_getElem?_getD, List.getD_eq_getElem?_getD, List.getElem?_eq_getElem h3, List.getElem?_eq_getElem h4] at e'
    rw [List.getElem?_eq_getElem h3, List.getElem?_eq_getElem h4]
    exact congrArg some e'
  · have h3 : (txb i).length ≤ n := Nat.le_of_not_lt hn
    have h4 : (txb j).length ≤ n := by
      have : ¬ n < slen j := by omega
      exact Nat.le_of_not_lt this
    rw [List.getElem?_eq_none h3, List.getElem?_eq_none h4]
theorem tx_S (h : narrow_1.before args s = true) (hA : ∀ a : Nat, a < s.heap.size → ¬ A a) : ∃ adK adV : Nat → Nat, vk_S txn ((List.range txn).map slen) ((List.range txn).map txb) adK adV A s s.heap ∧ ∀ o, o < 63 → (tmO o).eval args s none [] s = some (.ref (adK (dxl.getD o 0))) := by
  have h0 : ∀ i : Nat, ∃ q : Nat × Nat, i < txn → ∃ o, o < 63 ∧ fstO o = o ∧ dxl.getD o 0 = i ∧ (tmO o).eval args s none [] s = some (.ref q.1) ∧ va_O "java/lang/String" q.1 A s s.heap ∧ va_OF "java/lang/String" "coder" "B" (.int 0) q.1 A s s.heap ∧ va_OF "java/lang/String" "value" "[B" (.ref q.2) q.1 A s s.heap ∧ va_T .byte q.2 (slen i) (fun j => .int ((txb i).getD j 0)) A s s.heap := by
    intro i
    by_cases hi : i < txn
    · obtain ⟨o, o1, o2, o3⟩ := dx_on i hi
      obtain ⟨q, q1, q2, q3, q4, q5⟩ := tx_at h hA o1
      rw [o3] at q5
      exact ⟨q, fun _ => ⟨o, o1, o2, o3, q1, q2, q3, q4, q5⟩⟩
    · exact ⟨(0, 0), fun h => absurd h hi⟩
  obtain ⟨ad, had⟩ := Classical.axiomOfChoice h0
  refine ⟨fun i => (ad i).1, fun i => (ad i).2, ⟨fun i hi => ?_, fun i j hi hj e => ?_⟩, fun o ho => ?_⟩
  · obtain ⟨o, o1, o2, o3, q1, q2, q3, q4, q5⟩ := had i hi
    have hs9 : ((List.range txn).map slen).getD i 0 = slen i := by simp [List.getD_eq_getElem?_getD, hi]
    have hb9 : ((List.range txn).map txb).getD i [] = txb i := by simp [List.getD_eq_getElem?_getD, hi]
    rw [hs9, hb9]
    exact ⟨q2, q3, q4, q5⟩
  · obtain ⟨o, o1, o2, o3, q1, q2, q3, q4, q5⟩ := had i hi
    obtain ⟨o', o1', o2', o3', q1', q2', q3', q4', q5'⟩ := had j hj
    have e : (ad i).1 = (ad j).1 := e
    rw [e] at q4
    exact tx_dist hi hj q4 q4' q5 q5'
  · obtain ⟨d1, d2, d3, d4⟩ := dx_lt o ho
    obtain ⟨o', o1, o2, o3, q1, -⟩ := had (dxl.getD o 0) d1
    have e : o' = fstO o := by
      rw [← o2]
      unfold fstO
      rw [o3]
    subst e
    cases hb : Nat.beq (fstO o) o with
    | true =>
      have e := Nat.eq_of_beq_eq_true hb
      rw [e] at q1
      exact q1
    | false =>
      refine va_eqR (tx_in h ho (w := Cond.eq (tmO (fstO o)) (tmO o)) ?_) q1
      have hlt : fstO o < o := by
        have h1 := fst_le o ho
        have h2 : fstO o ≠ o := fun e => by rw [e, Nat.beq_refl] at hb; cases hb
        omega
      exact List.mem_append_right _ (List.mem_append_right _ (List.mem_map.mpr ⟨fstO o, List.mem_filter.mpr ⟨List.mem_range.mpr hlt, by rw [d3]; exact Nat.beq_refl _⟩, rfl⟩))
end TXT
theorem st_in : ∀ o, o < 63 → Cond.stringRef (RN (stl.getD o (0, 0, "")).1) (stl.getD o (0, 0, "")).2.1 (stl.getD o (0, 0, "")).2.2 ∈ lw_tbl := by decide +kernel
theorem cb_in : ∀ x, x < 4 → Cond.castable (exn x) (exn x) ∈ lw_tbl := by decide +kernel
theorem de_in : ∀ x ∈ exUp, Cond.declares (Bundle.initS x) ∈ lw_tbl := by decide +kernel
theorem ao_in : Cond.arrayOver (.object "BallotBus$State") ∈ lw_tbl ∧ Cond.arrayOver (.array .int) ∈ lw_tbl := by decide +kernel
theorem ls_in : Cond.laysStatic Bundle.tN "UNASSIGNED_STACK" Bundle.steD ∈ lw_tbl ∧ Cond.laysStatic Bundle.tN "SUPPRESSED_SENTINEL" Bundle.listD ∈ lw_tbl ∧ Cond.initialized Bundle.tN ∈ lw_tbl ∧ Cond.laysStatic "java/lang/String" "COMPACT_STRINGS" "Z" ∈ lw_tbl ∧ Cond.initialized "java/lang/String" ∈ lw_tbl ∧ Cond.laysStatic "jdk/internal/util/Preconditions" "SIOOBE_FORMATTER" "Ljava/util/function/BiFunction;" ∈ lw_tbl ∧ Cond.initialized "jdk/internal/util/Preconditions" ∈ lw_tbl := by decide +kernel
theorem rf_in : Cond.isRef (.static Bundle.tN "UNASSIGNED_STACK" Bundle.steD) ∈ flatC narrow_1 ∧ Cond.isRef (.static Bundle.tN "SUPPRESSED_SENTINEL" Bundle.listD) ∈ flatC narrow_1 ∧ Cond.eq (.static "java/lang/String" "COMPACT_STRINGS" "Z") (.int 1) ∈ flatC narrow_1 ∧ Cond.isRef (.static "jdk/internal/util/Preconditions" "SIOOBE_FORMATTER" "Ljava/util/function/BiFunction;") ∈ flatC narrow_1 := by decide +kernel
theorem mn_on : ∀ e ∈ MNd, (mkN e).onTables = true := fun _ _ => rfl
theorem ar_of {args : Array Value} {s : State} {ty : FieldType} (h : (Cond.arrayClass ty).before args s = true) : ∃ c : ClassId, ArrOfT s c ty ∧ s.vm.findClass ("[" ++ ty.toString) = some c := by
  obtain ⟨c, k, comp, h1, h2, h3⟩ := Cond.arrayClass_spec h
  exact ⟨c, fun n z => ⟨(fun q hq => by cases hq), k, h2, comp, h3⟩, h1⟩
theorem ar_ofS {args : Array Value} {s : State} {C : String} (h : (Cond.arrayOver (.object C)).before args s = true) : ∃ c : ClassId, ArrOfT s c (.object C) ∧ va_RA s c (.object C) := by
  obtain ⟨comp, c, k, h1, -, h2, h3, h4⟩ := Cond.arrayOver_spec h
  exact ⟨c, fun n z => ⟨(fun q hq => by cases hq), k, h2, comp, h3⟩, k, comp, h2, h3, h1, h4⟩
theorem ar_ofI {args : Array Value} {s : State} (h : (Cond.arrayOver (.array .int)).before args s = true) : ∃ c : ClassId, ArrOfT s c (.array .int) ∧ s.vm.findClass "[[I" = some c := by
  obtain ⟨comp, c, k, h1, -, h2, h3, h4⟩ := Jvm.Stand.arrayOver_specB h
  exact ⟨c, fun n z => ⟨(fun q hq => by cases hq), k, h2, comp, h3⟩, h4⟩
theorem sx_of {G : Gp} {b L : Nat} {xs : Nat → Int32} {s : State} {H : Heap} (hX : va_X b L xs s H) (hG : ∀ scr : Cell, H[b]? = some scr → scr.cls = G.2.2.2.2) : SX G b L xs H := by
  obtain ⟨scr, h1, ⟨h2, -⟩, h3, h4, h5⟩ := hX
  exact ⟨scr, h1, hG scr h1, h2, h3, h4, h5⟩
theorem jx_ok : ∀ x ∈ ([208, 209, 214, 215] : List Nat), ((nmy x).cls ≠ "java/lang/invoke/MethodHandle" ∧ (nmy x).cls ≠ "java/lang/invoke/VarHandle") ∧ (nmy 212).cls = (nmy x).cls ∧ Cond.privateMethod (nmy x) ∈ lw_tbl ∧ Cond.instanceMethod (nmy x) ∈ lw_tbl := by decide +kernel
theorem jx_sel : Cond.selects "java/lang/StringBuilder" (nmy 212) (nmy 212) ∈ lw_tbl := by decide +kernel
theorem tt_of {args : Array Value} {s : State} (hts : ∀ w ∈ lw_tbl, w.before args s = true) : ∀ w ∈ TT, w.before args s = true := fun w hw => by
  rcases List.mem_append.mp (List.mem_filter.mp hw).1 with h | h
  · exact hts w h
  · obtain ⟨x, hx, rfl⟩ := List.mem_map.mp h
    obtain ⟨h1, h2, h3, h4⟩ := jx_ok x hx
    exact jsel_priv h1 h2 (hts _ jx_sel) (hts _ h3) (hts _ h4)
theorem cl_in : Cond.castable "[B" "java/lang/Cloneable" ∈ lw_tbl := by decide +kernel
/-- the rows of digits, at the start -/
def tmD (t : Nat) : Term := Term.static "java/lang/Integer" (cond (Nat.beq t 1) "DigitOnes" "DigitTens") "[B"
theorem dg_el : ∀ t, t < 3 → 0 < t → (List.range 100).map (fun j => Cond.eq (.elem (tmD t) (.int (Int32.ofNat j))) (.int (dgt t j))) = ((flatC narrow_1).drop (cond (Nat.beq t 1) 12 115)).take 100 := by decide +kernel
theorem dg_in : ∀ t, t < 3 → 0 < t → Cond.arrayOf (tmD t) .byte ∈ flatC narrow_1 ∧ Cond.eq (.length (tmD t)) (.int (Int32.ofNat 100)) ∈ flatC narrow_1 ∧ Cond.laysStatic "java/lang/Integer" (cond (Nat.beq t 1) "DigitOnes" "DigitTens") "[B" ∈ lw_tbl ∧ Cond.initialized "java/lang/Integer" ∈ lw_tbl := by decide +kernel
theorem dg_at {args : Array Value} {s : State} {A : Nat → Prop} (hts : ∀ w ∈ lw_tbl, w.before args s = true) (hn : narrow_1.before args s = true) (hA : ∀ a : Nat, a < s.heap.size → ¬ A a) {t : Nat} (ht : t < 3) (ht0 : 0 < t) : ∃ q : Nat, va_Z "java/lang/Integer" (cond (Nat.beq t 1) "DigitOnes" "DigitTens") "[B" (.ref q) A s s.heap ∧ va_T .byte q 100 (fun j => .int (dgt t j)) A s s.heap := by
  have hfl := flat_of_before narrow_1 hn
  obtain ⟨h1, h2, h3, h4⟩ := dg_in t ht ht0
  obtain ⟨q, q1, q2⟩ := va_Tof (f := fun j => .int (dgt t j)) (N := 100) (A := A) (by omega) (hfl _ h1) (va_eqt (hfl _ h2)) (fun j hj => va_eqt (hfl _ (va_run (dg_el t ht ht0) j hj))) hA
  exact ⟨q, va_Zof (hts _ h3) (hts _ h4) q1 hA, q2⟩
/-- where the texts lie, the rows of digits, the rows of the texts -/
def adF (adK adV : Nat → Nat) (o n : Nat) (q : Nat) : Nat := if q < txn then adK q else if q = txn + 1 then o else if q = txn + 2 then n else adV (q - (txn + 3))
/-- the constants of the walk -/
theorem G_ex {args : Array Value} {s : State} {b L : Nat} {xs : Nat → Int32} (hts : ∀ w ∈ lw_tbl, w.before args s = true) (hn : narrow_1.before args s = true) (hX : va_X b L xs s s.heap) : ∃ G : Gp, G.2.2.2.1 = s.heap.size ∧ Kt G s ∧ Kh G s s.heap ∧ SX G b L xs s.heap := by
  have hTT := tt_of hts
  have hfl := flat_of_before narrow_1 hn
  have hA : ∀ a : Nat, a < s.heap.size → ¬ (fun q : Nat => s.heap.size ≤ q) a := fun a ha => Nat.not_le.mpr ha
  have h0 : ∀ c : Nat, ∃ q : ClassId × (Nat → Nat), c < vcl.length → u_Kn s (vck c).1 (vck c).2.1 (vck c).2.2 q.1 q.2 := fun c => by
    by_cases hc : c < vcl.length
    · obtain ⟨cC, iS, h⟩ := u_known hTT (lay_in hc) (hTT _ (CMd_in c (CMd_all c hc)))
      exact ⟨(cC, iS), fun _ => h⟩
    · exact ⟨(0, fun _ => 0), fun h => absurd h hc⟩
  obtain ⟨D, hD⟩ := Classical.axiomOfChoice h0
  obtain ⟨a0, p0, r0⟩ := ar_of (hTT _ fx_acI)
  obtain ⟨a1, p1, r1⟩ := ar_of (hTT _ fx_acB)
  obtain ⟨a2, p2, r2⟩ := ar_of (hTT _ fx_acJ)
  obtain ⟨a4, p4, r4⟩ := ar_ofI (hts _ ao_in.2)
  obtain ⟨a5, p5, r5⟩ := ar_ofS (hts _ ao_in.1)
  obtain ⟨adK, adV, hS, hev⟩ := tx_S (A := fun q : Nat => s.heap.size ≤ q) hn hA
  obtain ⟨o1, o2, o3⟩ := dg_at (A := fun q : Nat => s.heap.size ≤ q) hts hn hA (t := 1) (by omega) (by omega)
  obtain ⟨n1, n2, n3⟩ := dg_at (A := fun q : Nat => s.heap.size ≤ q) hts hn hA (t := 2) (by omega) (by omega)
  obtain ⟨scr, x1, ⟨x2, kc, x3, comp, x4⟩, x5⟩ := id hX
  have eK : ∀ q, q < txn → adF adK adV o1 n1 q = adK q := fun q hq => if_pos hq
  have eO : adF adK adV o1 n1 (txn + 1) = o1 := by unfold adF; rw [if_neg (by omega), if_pos rfl]
  have eN : adF adK adV o1 n1 (txn + 2) = n1 := by unfold adF; rw [if_neg (by omega), if_neg (by omega), if_pos rfl]
  have eV : ∀ j, adF adK adV o1 n1 (txn + (3 + j)) = adV j := fun j => by
    unfold adF
    rw [if_neg (by omega), if_neg (by omega), if_neg (by omega)]
    exact congrArg adV (by omega)
  have hS2 : vk_S txn ((List.range txn).map slen) ((List.range txn).map txb) (adF adK adV o1 n1) adV (fun q : Nat => s.heap.size ≤ q) s s.heap := by
    refine ⟨fun i hi => ?_, fun i j hi hj e => ?_⟩
    · rw [eK i hi]; exact hS.1 i hi
    · rw [eK i hi, eK j hj] at e
      exact hS.2 i j hi hj e
  refine ⟨((fun c => (D c).1, fun c => (D c).2), (fun j => [a0, a1, a2, a0, a4, a5].getD j 0), adF adK adV o1 n1, s.heap.size, scr.cls), rfl, ⟨⟨fun c q hq => ?_, fun k q hq => ?_⟩, fun j q hj => ?_, fun e he => va_Nw.of (mn_on e he) (hts _ (MNd_in e he)), fun x hx => va_Nw.of rfl (hts _ (cb_in x hx)), fun x hx => va_Nw.of rfl (hts _ (de_in x hx)), trivial, ⟨hts _ ao_in.1, hts _ ao_in.2⟩, ⟨kc, comp, x3, x4⟩, va_Nw.of rfl (hts _ cl_in)⟩, ⟨?_, ?_, ⟨adV, hS2⟩, ?_, ?_, ⟨⟨?_, ?_⟩, ⟨?_, ?_⟩, fun j hj => ?_⟩⟩, sx_of hX (fun scr' h' => by rw [Option.some.inj (h'.symm.trans x1)])⟩
  · have hc : c < vcl.length := (List.getElem?_eq_some_iff.mp hq).1
    have e : q = vck c := Option.some.inj (hq.symm.trans (vcl_at hc))
    subst e
    exact hD c hc
  · match k, hq with
    | 0, hq => cases hq; exact ⟨p0, r0⟩
    | 1, hq => cases hq; exact ⟨p1, r1⟩
    | 2, hq => cases hq; exact ⟨p2, r2⟩
    | 3, hq => cases hq; exact ⟨p0, r0⟩
    | 4, hq => cases hq; exact ⟨p4, r4⟩
    | 5, hq => cases hq; exact ⟨p5, r5⟩
    | k + 6, hq => simp [tyl] at hq
  · have hj9 : j < 63 := (List.getElem?_eq_some_iff.mp hj).1
    have e : stl.getD j (0, 0, "") = q := by rw [List.getD_eq_getElem?_getD, hj]; rfl
    have h1 := hts _ (st_in j hj9)
    have h2 := hev j hj9
    unfold tmO at h2
    rw [e] at h1 h2
    show vk_R (RN q.1) q.2.1 q.2.2 (adF adK adV o1 n1 (dxl.getD j 0)) s
    rw [eK _ (dx_lt j hj9).1]
    exact vk_R.of h1 h2
  · exact vx_Zqof (hts _ ls_in.1) (hts _ ls_in.2.2.1) (hfl _ rf_in.1) hA
  · exact vx_Zqof (hts _ ls_in.2.1) (hts _ ls_in.2.2.1) (hfl _ rf_in.2.1) hA
  · exact va_Zof (hts _ ls_in.2.2.2.1) (hts _ ls_in.2.2.2.2.1) (va_eqt (hfl _ rf_in.2.2.1)) hA
  · exact va_Zqof (hts _ ls_in.2.2.2.2.2.1) (hts _ ls_in.2.2.2.2.2.2) (hfl _ rf_in.2.2.2) hA
  · show va_Z "java/lang/Integer" "DigitOnes" "[B" (.ref (adF adK adV o1 n1 (txn + 1))) _ s s.heap
    rw [eO]; exact o2
  · show va_T .byte (adF adK adV o1 n1 (txn + 1)) 100 _ _ s s.heap
    rw [eO]; exact o3
  · show va_Z "java/lang/Integer" "DigitTens" "[B" (.ref (adF adK adV o1 n1 (txn + 2))) _ s s.heap
    rw [eN]; exact n2
  · show va_T .byte (adF adK adV o1 n1 (txn + 2)) 100 _ _ s s.heap
    rw [eN]; exact n3
  · show va_OF "java/lang/String" "value" "[B" (.ref (adF adK adV o1 n1 (txn + (3 + j)))) (adF adK adV o1 n1 j) _ s s.heap ∧ va_T .byte (adF adK adV o1 n1 (txn + (3 + j))) (slen j) _ _ s s.heap
    obtain ⟨-, -, a3, a4⟩ := hS2.1 j hj
    have hs9 : ((List.range txn).map slen).getD j 0 = slen j := by simp [List.getD_eq_getElem?_getD, hj]
    have hb9 : ((List.range txn).map txb).getD j [] = txb j := by simp [List.getD_eq_getElem?_getD, hj]
    rw [hs9, hb9] at a4
    rw [eV j]
    exact ⟨a3, a4⟩
