/-! the draft on both sides -/
def DrK (X W : Sm) (d C : Nat) : Prop := ∀ k, k < C → NmR (gJ X.1 6 d k) (gJ W.1 63 0 k) ∧ ∃ x, x ≤ 3 ∧ gI X.1 7 d k = nI x ∧ gI W.1 53 0 (15 + k) = nI x
def DrA (X W : Sm) (d A : Nat) : Prop := ∀ a, a < A → NmR (gJ X.1 8 d a) (gJ W.1 64 0 a) ∧ (∃ x, x ≤ 999 ∧ gI X.1 9 d a = nI x ∧ gI W.1 53 0 (20 + a) = nI x) ∧ ∃ w, 1 ≤ w ∧ w ≤ 9 ∧ gI X.1 10 d a = nI w ∧ gI W.1 62 0 a = nI w
def stL (j : Nat) : Nat := ([1, 1, 0, 0, 1] : List Nat).getD j 0
def stH (j : Nat) : Nat := ([20, 50, 99, 99, 9] : List Nat).getD j 0
def DrS (X W : Sm) (d : Nat) : Prop := ∀ j, j < 5 → ∃ x, stL j ≤ x ∧ x ≤ stH j ∧ gI X.1 11 d j = nI x ∧ gI W.1 61 0 j = nI x
def DrQ (X W : Sm) (d C A n : Nat) : Prop := (gI X.1 12 d 1 = nI n ∧ gI X.1 12 d 2 = (-1 : Int32) ∧ gI W.1 53 0 9 = nI n ∧ gI W.1 53 0 6 = nI n) ∧ ∀ j, j < n → ∃ a k l, a < A ∧ k < C ∧ 1 ≤ l ∧ l ≤ 20 ∧ (gI X.1 19 d j = nI j ∧ gI X.1 14 d j = nI a ∧ gI X.1 15 d j = nI k ∧ gI X.1 16 d j = nI l ∧ gI X.1 17 d j = nI l ∧ gI X.1 18 d j = nI 0) ∧ gI W.1 53 0 (118 + 6 * j) = nI j ∧ gI W.1 53 0 (118 + 6 * j + 1) = nI a ∧ gI W.1 53 0 (118 + 6 * j + 2) = nI k ∧ gI W.1 53 0 (118 + 6 * j + 3) = nI l ∧ gI W.1 53 0 (118 + 6 * j + 4) = nI l
def DrZ (W : Sm) (C : Nat) : Prop := (∀ q, q ∈ [0, 2, 3, 4, 5, 7] → gI W.1 53 0 q = nI 0) ∧ gI W.1 53 0 8 = (-1 : Int32) ∧ (∀ q, 28 ≤ q → q < 118 → gI W.1 53 0 q = nI 0) ∧ (∀ j, j < 40 → gI W.1 53 0 (118 + 6 * j + 5) = nI 0) ∧ ∀ k, C ≤ k → k < 5 → gI W.1 53 0 (15 + k) = nI 0
def DrT (X W : Sm) (d : Nat) : Prop := ∃ x, x < 3 ∧ gI X.1 5 d 7 = nI x ∧ gI W.1 53 0 1 = nI x
def Mk (X W : Sm) : Prop := ∃ m, m < 64 ∧ gI X.1 3 0 2 = nI m ∧ gI W.1 48 0 35 = nI ((m % 32) * 2 + m / 32)
def Dr (X W : Sm) (d C A n : Nat) : Prop := (C ≤ 5 ∧ A ≤ 8 ∧ n ≤ 40) ∧ (gI X.1 5 d 0 = nI C ∧ gI X.1 5 d 3 = nI A ∧ gI W.1 48 0 33 = nI C ∧ gI W.1 48 0 34 = nI A) ∧ DrK X W d C ∧ DrA X W d A ∧ DrS X W d ∧ DrQ X W d C A n ∧ DrZ W C ∧ DrT X W d ∧ Mk X W
def SmX (d : Nat) (X X' : Sm) : Prop := (∀ k, k ∈ [5, 6, 7, 8, 9, 10, 11, 12, 14, 15, 16, 17, 18, 19] → gI X'.1 k d = gI X.1 k d ∧ gJ X'.1 k d = gJ X.1 k d) ∧ gI X'.1 3 0 2 = gI X.1 3 0 2
def SmW (W W' : Sm) : Prop := (∀ k, k ∈ [53, 61, 62, 63, 64] → gI W'.1 k 0 = gI W.1 k 0 ∧ gJ W'.1 k 0 = gJ W.1 k 0) ∧ ∀ x, x ∈ [33, 34, 35] → gI W'.1 48 0 x = gI W.1 48 0 x
theorem SmX.rf {d : Nat} {X : Sm} : SmX d X X := ⟨fun _ _ => ⟨rfl, rfl⟩, rfl⟩
theorem SmX.tr {d : Nat} {X Y Z : Sm} (h : SmX d X Y) (h2 : SmX d Y Z) : SmX d X Z := ⟨fun k hk => ⟨(h2.1 k hk).1.trans (h.1 k hk).1, (h2.1 k hk).2.trans (h.1 k hk).2⟩, h2.2.trans h.2⟩
theorem SmW.rf {W : Sm} : SmW W W := ⟨fun _ _ => ⟨rfl, rfl⟩, fun _ _ => rfl⟩
theorem SmW.tr {X Y Z : Sm} (h : SmW X Y) (h2 : SmW Y Z) : SmW X Z := ⟨fun k hk => ⟨(h2.1 k hk).1.trans (h.1 k hk).1, (h2.1 k hk).2.trans (h.1 k hk).2⟩, fun x hx => (h2.2 x hx).trans (h.2 x hx)⟩
theorem SmX.k4 {d : Nat} {X Z : Sm} (h : Fr (KS [4]) X Z) : SmX d X Z := ⟨fun k hk => h.2 k d (fun q => by
  unfold KS at q
  simp only [List.mem_cons, List.mem_nil_iff, or_false] at *
  omega), by rw [h.gI (by unfold KS; decide)]⟩
theorem SmW.t {W Z : Sm} (h : FrT W Z) : SmW W Z := ⟨fun k hk => h.2.1 k 0 (fun q => by rw [q] at hk; exact absurd hk (by decide)), fun x hx => h.2.2 x (by
  simp only [List.mem_cons, List.mem_nil_iff, or_false] at *
  omega)⟩
theorem Dr.cg {X X' W W' : Sm} {d C A n : Nat} (h : Dr X W d C A n) (hx : SmX d X X') (hw : SmW W W') : Dr X' W' d C A n := by
  obtain ⟨h0, ⟨a1, a2, a3, a4⟩, hK, hA, hS, hQ, hZ, hT, hM⟩ := h
  obtain ⟨x1, x2⟩ := hx
  obtain ⟨w1, w2⟩ := hw
  have i5 := (x1 5 (by decide)).1
  have i53 := (w1 53 (by decide)).1
  refine ⟨h0, ⟨by rw [i5]; exact a1, by rw [i5]; exact a2, (w2 33 (by decide)).trans a3, (w2 34 (by decide)).trans a4⟩, fun k hk => ?_, fun a ha => ?_, fun j hj => ?_, ?_, ?_, ?_, ?_⟩
  · rw [(x1 6 (by decide)).2, (x1 7 (by decide)).1, (w1 63 (by decide)).2, i53]
    exact hK k hk
  · rw [(x1 8 (by decide)).2, (x1 9 (by decide)).1, (x1 10 (by decide)).1, (w1 64 (by decide)).2, (w1 62 (by decide)).1, i53]
    exact hA a ha
  · rw [(x1 11 (by decide)).1, (w1 61 (by decide)).1]
    exact hS j hj
  · unfold DrQ
    rw [(x1 12 (by decide)).1, (x1 19 (by decide)).1, (x1 14 (by decide)).1, (x1 15 (by decide)).1, (x1 16 (by decide)).1, (x1 17 (by decide)).1, (x1 18 (by decide)).1, i53]
    exact hQ
  · unfold DrZ
    rw [i53]
    exact hZ
  · unfold DrT
    rw [i5, i53]
    exact hT
  · unfold Mk
    rw [x2, w2 35 (by decide)]
    exact hM
def NE (X W : Sm) : Prop := gI X.1 3 0 3 = nI 0 ∧ gI X.1 3 0 4 = (-1 : Int32) ∧ gI W.1 48 0 31 = nI 0 ∧ gI W.1 48 0 32 = (-1 : Int32)
def RdR (d L : Nat) (B : Nat → Nat) (s C A n : Nat) (X W : Sm) : Prop := X.2 2 = d ∧ TkC X L B s ∧ TkM W L B s ∧ NE X W ∧ Dr X W d C A n
theorem NE.nx {X W Z Z2 : Sm} (h : NE X W) (f : Fr (KS [4]) X Z) (f2 : FrT W Z2) : NE Z Z2 := by
  unfold NE
  rw [f.gI (by unfold KS; decide), f2.2.2 31 (by omega), f2.2.2 32 (by omega)]
  exact h
theorem RdR.nx {d L s C A n : Nat} {B : Nat → Nat} {X W Z Z2 : Sm} (h : RdR d L B s C A n X W) (hn : Nxt L B s X W Z Z2) : RdR d L B (nxt L B s) C A n Z Z2 := by
  obtain ⟨h1, h2, h3, h4, h5⟩ := h
  obtain ⟨f, f2, t, t2⟩ := hn
  exact ⟨by rw [f.1]; exact h1, t, t2, h4.nx f f2, h5.cg (SmX.k4 f) (SmW.t f2)⟩
theorem RdR.step {d L s C A n : Nat} {B : Nat → Nat} {X W : Sm} (h : RdR d L B s C A n X W) : ∃ Z Z2, fn_95 X = some ((), Z) ∧ fn_278 W = some ((), Z2) ∧ Nxt L B s X W Z Z2 := by
  obtain ⟨Z, eZ, fZ, tZ⟩ := c_next h.2.1
  obtain ⟨Z2, eZ2, fZ2, tZ2⟩ := r_goOn h.2.2.1 h.2.2.2.1.2.2.1
  exact ⟨Z, Z2, eZ, eZ2, fZ, fZ2, tZ, tZ2⟩
/-- what a reader leaves: it went on, or both found the same error -/
def ErB (Z Z2 : Sm) : Prop := ∃ er p, 1 ≤ er ∧ er ≤ 5 ∧ gI Z.1 3 0 3 = nI er ∧ gI Z.1 3 0 4 = p ∧ gI Z2.1 48 0 31 = nI er ∧ gI Z2.1 48 0 32 = p
def Ou (d L : Nat) (B : Nat → Nat) (s : Nat) (X W : Sm) (v : Int32) (Z Z2 : Sm) : Prop := Fr (SD d) X Z ∧ FrW W Z2 ∧ ((v = nI 1 ∧ ∃ s' C A n, s < s' ∧ RdR d L B s' C A n Z Z2) ∨ (v = nI 0 ∧ ErB Z Z2))
theorem Fr.d4 {d : Nat} {X Z : Sm} (h : Fr (KS [4]) X Z) : Fr (SD d) X Z := h.up (fun k i hk => Or.inl (by
  unfold KS at hk
  simp only [List.mem_cons, List.mem_nil_iff, or_false] at *
  omega))
theorem ErB.mk {X1 W1 Z2 : Sm} {L s e : Nat} {B : Nat → Nat} (h1 : 1 ≤ e) (h5 : e ≤ 5) (tX : TkC X1 L B s) (tW : TkM W1 L B s) (e31 : gI Z2.1 48 0 31 = nI e) (e32 : gI Z2.1 48 0 32 = gI W1.1 48 0 26) : ErB (erC X1 (nI e)) Z2 :=
  ⟨e, nI s, h1, h5, erC_3, by rw [erC_4]; exact tX.2.2.2.1, e31, by rw [e32]; exact tW.2.2.1⟩
theorem nxt_gt {L s : Nat} {B : Nat → Nat} (h : s < L) : s < nxt L B s := Nat.lt_of_lt_of_le (edS_gt h) rn_ge
theorem wb_lt {L s j : Nat} {B : Nat → Nat} (h : wb L B s j = true) : s < L := by
  unfold wb at h
  rw [Bool.and_eq_true] at h
  exact (kd1 (Nat.eq_of_beq_eq_true h.1)).1
theorem upd_self {f : Nat → Int32} {x : Nat} {v : Int32} (h : f x = v) : upd f x v = f := by
  funext q
  by_cases c : q = x
  · rw [c, upd_at, h]
  · rw [upd_ne c]
theorem Dr.addK {X W : Sm} {d C A n x : Nat} {v v' : Int64} (h : Dr X W d C A n) (hC : C < 5) (hv : NmR v v') (hx : x ≤ 3) : Dr (sI (sI (sJ X 6 d C v) 7 d C (nI x)) 5 d 0 (nI (C + 1))) (sI (sI (sJ W 63 0 C v') 53 0 (15 + C) (nI x)) 48 0 33 (nI (C + 1))) d (C + 1) A n := by
  obtain ⟨h0, ⟨a1, a2, a3, a4⟩, hK, hA, hS, hQ, hZ, hT, hM⟩ := h
  generalize hX' : sI (sI (sJ X 6 d C v) 7 d C (nI x)) 5 d 0 (nI (C + 1)) = X'
  generalize hW' : sI (sI (sJ W 63 0 C v') 53 0 (15 + C) (nI x)) 48 0 33 (nI (C + 1)) = W'
  have x5 : gI X'.1 5 d = upd (gI X.1 5 d) 0 (nI (C + 1)) := by rw [← hX', gI_sIv, gI_sIk (by omega), gI_sJ]
  have x7 : gI X'.1 7 d = upd (gI X.1 7 d) C (nI x) := by rw [← hX', gI_sIk (by omega), gI_sIv, gI_sJ]
  have xo : ∀ k, k ≠ 5 → k ≠ 7 → gI X'.1 k = gI X.1 k := fun k h1 h2 => by rw [← hX', gI_sIk h1, gI_sIk h2, gI_sJ]
  have x6 : ∀ k, gJ X'.1 6 d k = if k = C then v else gJ X.1 6 d k := fun k => by
    rw [← hX', gJ_sI, gJ_sI, gJ_sJ]
    by_cases c : k = C
    · rw [if_pos ⟨rfl, rfl, c⟩, if_pos c]
    · rw [if_neg (fun q => c q.2.2), if_neg c]
  have x8 : gJ X'.1 8 d = gJ X.1 8 d := by
    rw [← hX', gJ_sI, gJ_sI]
    funext k
    rw [gJ_sJ, if_neg (fun q => absurd q.1 (by decide))]
  have w53 : gI W'.1 53 0 = upd (gI W.1 53 0) (15 + C) (nI x) := by rw [← hW', gI_sIk (by omega), gI_sIv, gI_sJ]
  have w48 : gI W'.1 48 0 = upd (gI W.1 48 0) 33 (nI (C + 1)) := by rw [← hW', gI_sIv, gI_sIk (by omega), gI_sJ]
  have wo : ∀ k, k ≠ 53 → k ≠ 48 → gI W'.1 k = gI W.1 k := fun k h1 h2 => by rw [← hW', gI_sIk h2, gI_sIk h1, gI_sJ]
  have w63 : ∀ k, gJ W'.1 63 0 k = if k = C then v' else gJ W.1 63 0 k := fun k => by
    rw [← hW', gJ_sI, gJ_sI, gJ_sJ]
    by_cases c : k = C
    · rw [if_pos ⟨rfl, rfl, c⟩, if_pos c]
    · rw [if_neg (fun q => c q.2.2), if_neg c]
  have w64 : gJ W'.1 64 0 = gJ W.1 64 0 := by
    rw [← hW', gJ_sI, gJ_sI]
    funext k
    rw [gJ_sJ, if_neg (fun q => absurd q.1 (by decide))]
  refine ⟨by omega, ⟨by rw [x5, upd_at], by rw [x5, upd_ne (by omega)]; exact a2, by rw [w48, upd_at], by rw [w48, upd_ne (by omega)]; exact a4⟩, fun k hk => ?_, fun a ha => ?_, fun j hj => ?_, ?_, ?_, ?_, ?_⟩
  · rw [x6, w63, x7, w53]
    by_cases c : k = C
    · rw [if_pos c, if_pos c, c, upd_at, upd_at]
      exact ⟨hv, x, hx, rfl, rfl⟩
    · rw [if_neg c, if_neg c, upd_ne c, upd_ne (by omega)]
      exact hK k (by omega)
  · rw [x8, w64, xo 9 (by omega) (by omega), xo 10 (by omega) (by omega), wo 62 (by omega) (by omega), w53, upd_ne (by omega)]
    exact hA a ha
  · rw [xo 11 (by omega) (by omega), wo 61 (by omega) (by omega)]
    exact hS j hj
  · obtain ⟨q1, q2⟩ := hQ
    unfold DrQ
    rw [xo 12 (by omega) (by omega), xo 19 (by omega) (by omega), xo 14 (by omega) (by omega), xo 15 (by omega) (by omega), xo 16 (by omega) (by omega), xo 17 (by omega) (by omega), xo 18 (by omega) (by omega), w53]
    refine ⟨by rw [upd_ne (by omega), upd_ne (by omega)]; exact q1, fun j hj => ?_⟩
    obtain ⟨a, k, l, b1, b2, b3⟩ := q2 j hj
    rw [upd_ne (by omega), upd_ne (by omega), upd_ne (by omega), upd_ne (by omega), upd_ne (by omega)]
    exact ⟨a, k, l, b1, by omega, b3⟩
  · obtain ⟨z1, z2, z3, z4, z5⟩ := hZ
    unfold DrZ
    rw [w53]
    refine ⟨fun q hq => ?_, by rw [upd_ne (by omega)]; exact z2, fun q h1 h2 => by rw [upd_ne (by omega)]; exact z3 q h1 h2, fun j hj => by rw [upd_ne (by omega)]; exact z4 j hj, fun k h1 h2 => by rw [upd_ne (by omega)]; exact z5 k (by omega) h2⟩
    rw [upd_ne (by
      simp only [List.mem_cons, List.mem_nil_iff, or_false] at hq
      omega)]
    exact z1 q hq
  · obtain ⟨t, t1, t2, t3⟩ := hT
    exact ⟨t, t1, by rw [x5, upd_ne (by omega)]; exact t2, by rw [w53, upd_ne (by omega)]; exact t3⟩
  · unfold Mk
    rw [xo 3 (by omega) (by omega), w48, upd_ne (by omega)]
    exact hM
