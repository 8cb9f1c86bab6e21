/-! parse -/
theorem p_both {Y W : Sm} {L d : Nat} {B : Nat → Nat} (h : Tx Y L B) (h23 : gI W.1 48 0 23 = nI L) (hB : ∀ j, j < L → B j < 256 ∧ gI W.1 60 0 j = sb (B j)) : ∃ v Z Z2, fn_59 d Y = some (v, Z) ∧ fn_292 W = (if v = nI 1 then (bd (fn_269 Z2) fun _ Y27 => some ((gI Y27.1 48 0 1), Y27)) else some ((-1 : Int32), Z2)) ∧ Fr (SD d) (sG Y 2 d) Z ∧ FrI W Z2 ∧ gI Z2.1 48 0 23 = nI 0 ∧ ((v = nI 1 ∧ ∃ s' C A n, 0 < C ∧ 0 < A ∧ RdR d L B s' C A n Z Z2) ∨ (v = nI 0 ∧ ErB Z Z2)) := by
  obtain ⟨X, V, e1, e2, f1, f2, g, r⟩ := p_start (d := d) h h23 hB
  obtain ⟨v, Z, Z2, q1, q2, q3, q4, q5⟩ := p_read r
  exact ⟨v, Z, Z2, e1.trans q1, e2.trans q2, f1.tr q3, f2.tr q4.i, (q4.2.2 23 (by omega)).trans g, q5⟩
theorem CR.frd {Y Z : Sm} {n q m : Nat} {P : Pm} {r : Nat → Int32} (hA : P.2.1 ≤ 8) (h : CR Y n P r q m) (hG : Z.2 (n + 3) = Y.2 (n + 3)) (hP : ∀ k, k ∈ [5, 10, 11] → gI Z.1 k (Y.2 (n + 3)) = gI Y.1 k (Y.2 (n + 3))) (hI : ∀ k i, S2 n k i → gI Z.1 k i = gI Y.1 k i) (hJ : gJ Z.1 25 n = gJ Y.1 25 n) : CR Z n P r q m := by
  have a : ∀ k, k ∈ [21, 22, 23, 24, 25, 29, 30, 31, 32, 33, 34, 35, 36] → gI Z.1 k n = gI Y.1 k n := fun k hk => hI k n (Or.inl ⟨rfl, hk⟩)
  have b : ∀ k, k ∈ [12, 14, 15, 16, 17, 18, 19] → gI Z.1 k (n + 3) = gI Y.1 k (n + 3) := fun k hk => hI k (n + 3) (Or.inr (Or.inl ⟨rfl, hk⟩))
  refine ⟨?_, h.a.cg (a _ (by decide)) (fun _ _ => rfl), h.q.cg (b _ (by decide)) (b _ (by decide)) (b _ (by decide)) (b _ (by decide)) (b _ (by decide)) (b _ (by decide)) (b _ (by decide)) rfl rfl (fun _ _ _ _ => rfl), h.k.cg (a _ (by decide)) (a _ (by decide)) (a _ (by decide)) hJ (fun _ _ => ⟨rfl, rfl, rfl, rfl⟩), h.u.cg (a _ (by decide)) (a _ (by decide)) (a _ (by decide)) (a _ (by decide)) (a _ (by decide)) (a _ (by decide)) (fun _ _ _ => rfl) hA, h.b.cg (fun x hx => hI 27 _ (Or.inr (Or.inr ⟨rfl, by omega, by omega⟩))) (fun _ _ _ _ => rfl), h.l.cg (a _ (by decide)) (a _ (by decide)) (fun _ _ _ => rfl)⟩
  rw [hG]
  exact h.p.cg (hP 5 (by decide)) (hP 11 (by decide)) (hP 10 (by decide))
/-- what reading may change of the class -/
def PK (d k i : Nat) : Prop := k ∈ [0, 1, 3, 4, 48, 53, 61, 62, 63, 64] ∨ (i = d ∧ k ∈ [5, 6, 7, 8, 9, 10, 11, 12, 14, 15, 16, 17, 18, 19])
theorem R6.pa {Y Z : Sm} {c tu ro u pos : Nat} {P : Pm} {b : Bool} (h : R6 Y c P tu ro u pos b) (hg : ∀ a, a ≠ 2 → Z.2 a = Y.2 a) (hk : ∀ k i, ¬ PK (Y.2 1) k i → gI Z.1 k i = gI Y.1 k i ∧ gJ Z.1 k i = gJ Y.1 k i) (h0 : ∀ x, x ≠ 4 → x ≠ 5 → gI Z.1 0 0 x = gI Y.1 0 0 x) (h48 : ∀ x, (1 ≤ x ∧ x ≤ 7) ∨ (17 ≤ x ∧ x ≤ 19) ∨ x = 41 → gI Z.1 48 0 x = gI Y.1 48 0 x) (hII : IoI Z) (hEE : IoE Z) : R6 Z c P tu ro u pos b := by
  obtain ⟨hK, hS0, hU, hS, hI, hN⟩ := h
  have hA := hK.a8
  obtain ⟨s1, s2, s3⟩ := hK.2.2.2.2.1
  have hs : ∀ n r, St Y n P r c → St Z n P r c := fun n r h => by
    obtain ⟨h1, t, q, m, s, a, b⟩ := h
    refine ⟨by rw [hg _ (by omega), hg 0 (by omega)]; exact h1, t, q, m, s, a.frd hA.2.2.2 (hg _ (by omega)) (fun k hk' => ?_) (fun k i hk' => ?_) (hk 25 n (fun q => ?_)).2, b⟩
    · rw [h1]
      refine (hk k (Y.2 0) (fun q => ?_)).1
      unfold PK at q
      simp only [List.mem_cons, List.mem_nil_iff, or_false] at *
      omega
    · refine (hk k i (fun q => ?_)).1
      unfold PK at q
      unfold S2 at hk'
      simp only [List.mem_cons, List.mem_nil_iff, or_false] at *
      omega
    · unfold PK at q
      simp only [List.mem_cons, List.mem_nil_iff, or_false] at q
      omega
  have hk2 : ∀ k i, k ∈ [20, 37, 49, 50, 51, 52, 56, 57, 65] → gI Z.1 k i = gI Y.1 k i ∧ gJ Z.1 k i = gJ Y.1 k i := fun k i hm => hk k i (fun q => by
    unfold PK at q
    simp only [List.mem_cons, List.mem_nil_iff, or_false] at *
    omega)
  have hk0 : ∀ k, k ∈ [6, 8] → gJ Z.1 k (Y.2 0) = gJ Y.1 k (Y.2 0) := fun k hm => (hk k (Y.2 0) (fun q => by
    unfold PK at q
    simp only [List.mem_cons, List.mem_nil_iff, or_false] at *
    omega)).2
  refine ⟨hK.cg (fun x h1 h2 => h48 x (Or.inl ⟨h1, h2⟩)) (hk2 49 0 (by decide)).1 (h48 19 (by omega)) (hg 0 (by omega)) (hg 1 (by omega)), ?_, ?_, ?_, ⟨hII, hEE, ?_⟩, hN.cg (hg 0 (by omega)) (hk0 6 (by decide)) (hk0 8 (by decide)) (hk2 50 0 (by decide)).2 (hk2 51 0 (by decide)).2⟩
  · rw [(hk2 52 0 (by decide)).1]
    exact hs 0 _ hS0
  · obtain ⟨p1, p2, p3, p4, p5⟩ := hU
    refine ⟨p1, by rw [(hk2 37 0 (by decide)).1]; exact p2, by rw [(hk2 37 0 (by decide)).1]; exact p3, (h48 17 (by omega)).trans p4, fun j hj => ?_⟩
    have er : rowH Z j = rowH Y j := by
      unfold rowH
      rw [(hk2 57 0 (by decide)).1]
    rw [er]
    exact hs _ _ (p5 j hj)
  · obtain ⟨p1, p2, p3⟩ := hS
    refine ⟨(h0 11 (by omega) (by omega)).trans p1, (h48 18 (by omega)).trans p2, fun hb => ?_⟩
    rw [(hk2 56 0 (by decide)).1]
    exact hs 2 _ (p3 hb)
  · obtain ⟨_, _, w, hw, o1, o2, o3⟩ := hI
    refine ⟨w, hw, (h0 3 (by omega) (by omega)).trans o1, (h48 41 (by omega)).trans o2, fun j hj => ?_⟩
    rw [(hk2 20 0 (by decide)).1, (hk2 65 0 (by decide)).1]
    exact o3 j hj
/-- the row that a draft gives -/
def drP (Z : Sm) (d C A : Nat) : Pm := (C, A, gI Z.1 11 d, gI Z.1 10 d)
def drR (Z2 : Sm) (C A : Nat) (g : Nat → Int32) : Nat → Int32 := blF C A (odF C (cpy (gI Z2.1 53 0) g))
theorem drR_o {Z2 : Sm} {C A q : Nat} {g : Nat → Int32} (hA : A ≤ 8) (h : q < 718) (h1 : q < 10 ∨ 10 + C ≤ q) (h2 : q < 78 ∨ 118 ≤ q) : drR Z2 C A g q = gI Z2.1 53 0 q := by
  unfold drR blF odF
  rw [if_neg (by omega), if_neg (by omega), cpy_lt h]
theorem drR_10 {Z2 : Sm} {C A k : Nat} {g : Nat → Int32} (hC : C ≤ 5) (hk : k < C) : drR Z2 C A g (10 + k) = nI k := by
  unfold drR blF odF
  rw [if_neg (by omega), if_pos (by omega), show 10 + k - 10 = k by omega]
theorem drR_b {Z2 : Sm} {C A a p : Nat} {g : Nat → Int32} (hC : C ≤ 5) (ha : a < A) (hp : p < C) : bal (drR Z2 C A g) a p = nI p := by
  unfold bal drR blF
  rw [if_pos (by omega), show (78 + 5 * a + p - 78) % 5 = p by omega]
theorem Dr.rw {Z Z2 X : Sm} {d C A n : Nat} {g : Nat → Int32} (h : Dr Z Z2 d C A n) (hX : ∀ k, k ∈ [5, 7, 9, 10, 11, 12, 14, 15, 16, 17, 18, 19] → gI X.1 k d = gI Z.1 k d) : Rw X d (drP Z d C A) (drR Z2 C A g) n := by
  obtain ⟨⟨hC, hA, hn⟩, ⟨a1, a2, a3, a4⟩, hK, hAa, hS, ⟨⟨q1, q2, q3, q4⟩, hQ⟩, ⟨z1, z2, z3, z4, z5⟩, ⟨t, t1, t2, t3⟩, _⟩ := h
  have lo : ∀ q, q < 10 → drR Z2 C A g q = gI Z2.1 53 0 q := fun q hq => drR_o hA (by omega) (by omega) (by omega)
  refine ⟨⟨⟨⟨by rw [hX 5 (by decide)]; exact a1, by rw [hX 5 (by decide)]; exact a2⟩, fun j _ => by rw [hX 11 (by decide)]; rfl, fun a _ => by rw [hX 10 (by decide)]; rfl⟩, ?_, ?_, ?_, ?_, ?_, ?_, ?_, ?_, ?_, ?_⟩, ⟨by rw [hX 12 (by decide)]; exact q1, by rw [hX 12 (by decide)]; exact q2⟩, fun k hk => ?_, fun a ha => ?_, fun a p ha hp => ?_, fun j hj => ?_⟩
  · rw [lo 0 (by omega)]; exact z1 0 (by decide)
  · rw [lo 1 (by omega), hX 5 (by decide), t2, t3]
  · rw [lo 2 (by omega)]; exact z1 2 (by decide)
  · rw [lo 3 (by omega)]; exact z1 3 (by decide)
  · rw [lo 4 (by omega)]; exact z1 4 (by decide)
  · rw [lo 5 (by omega)]; exact z1 5 (by decide)
  · rw [lo 6 (by omega)]; exact q4
  · rw [lo 7 (by omega)]; exact z1 7 (by decide)
  · rw [lo 8 (by omega)]; exact z2
  · rw [lo 9 (by omega)]; exact q3
  · have hk : k < C := hk
    obtain ⟨_, x, hx, e1, e2⟩ := hK k hk
    refine ⟨drR_10 hC hk, ?_, ?_, ?_⟩
    · rw [hX 7 (by decide), drR_o hA (by omega) (by omega) (by omega), e1, e2]
    · rw [drR_o hA (by omega) (by omega) (by omega)]; exact z3 _ (by omega) (by omega)
    · rw [drR_o hA (by omega) (by omega) (by omega)]; exact z3 _ (by omega) (by omega)
  · have ha : a < A := ha
    obtain ⟨_, ⟨x, hx, e1, e2⟩, _⟩ := hAa a ha
    refine ⟨?_, ?_, ?_, ?_, ?_, ?_⟩
    · rw [hX 9 (by decide), drR_o hA (by omega) (by omega) (by omega), e1, e2]
    · rw [drR_o hA (by omega) (by omega) (by omega)]; exact z3 _ (by omega) (by omega)
    · rw [drR_o hA (by omega) (by omega) (by omega)]; exact z3 _ (by omega) (by omega)
    · rw [drR_o hA (by omega) (by omega) (by omega)]; exact z3 _ (by omega) (by omega)
    · rw [drR_o hA (by omega) (by omega) (by omega)]; exact z3 _ (by omega) (by omega)
    · rw [drR_o hA (by omega) (by omega) (by omega)]; exact z3 _ (by omega) (by omega)
  · exact drR_b hC ha hp
  · obtain ⟨a, k, l, _, _, _, _, ⟨e1, e2, e3, e4, e5, e6⟩, w0, w1, w2, w3, w4⟩ := hQ j hj
    have rj : ∀ w, w < 6 → rq (drR Z2 C A g) j w = gI Z2.1 53 0 (118 + 6 * j + w) := fun w hw => by
      unfold rq
      rw [drR_o hA (by omega) (by omega) (by omega)]
    rw [rj 0 (by omega), rj 1 (by omega), rj 2 (by omega), rj 3 (by omega), rj 4 (by omega), rj 5 (by omega), hX 19 (by decide), hX 14 (by decide), hX 15 (by decide), hX 16 (by decide), hX 17 (by decide), hX 18 (by decide), e1, e2, e3, e4, e5, e6, z4 j (by omega), w1, w2, w3, w4]
    exact ⟨w0.symm, rfl, rfl, rfl, rfl, rfl⟩
theorem Dr.gr {Z Z2 : Sm} {d C A n : Nat} {g : Nat → Int32} (h : Dr Z Z2 d C A n) (h0 : 0 < C) (hA0 : 0 < A) : GR (drP Z d C A) (drR Z2 C A g) 0 n 0 n ∧ AnI (drR Z2 C A g) A 0 := by
  have hR := h.rw (X := Z) (g := g) (fun _ _ => rfl)
  obtain ⟨⟨hC, hA, hn⟩, ⟨a1, a2, a3, a4⟩, hK, hAa, hS, ⟨⟨q1, q2, q3, q4⟩, hQ⟩, ⟨z1, z2, z3, z4, z5⟩, ⟨t, t1, t2, t3⟩, _⟩ := h
  obtain ⟨⟨_, r0, r1, r2, r3, r4, r5, r6, r7, r8, r9⟩, _, rK, rA, rB, rQ⟩ := hR
  refine ⟨⟨⟨r0, r9, r7, r6⟩, ⟨hn, by omega, by omega⟩, ⟨t, t1, r1.symm.trans t2⟩, ⟨0, hA0, r2⟩, Or.inl r3, ⟨fun k hk => ⟨k, hk, (rK k hk).1⟩, fun p hp => ⟨p, hp, (rK p hp).1⟩⟩, fun a ha => ⟨fun k hk => ⟨k, hk, rB a k ha hk⟩, fun p hp => ⟨p, hp, rB a p ha hp⟩⟩, fun j hj => ?_, Or.inl r8, fun a ha => ?_, fun k hk => ⟨0, by omega, (rK k hk).2.2.2⟩⟩, fun a ha => ⟨0, by omega, (rA a ha).2.2.2.2.1⟩⟩
  · obtain ⟨a, k, l, ha, hk, hl, hl2, ⟨e1, e2, e3, e4, e5, e6⟩, _⟩ := hQ j hj
    obtain ⟨b1, b2, b3, b4, b5, b6⟩ := rQ j hj
    refine ⟨⟨a, ha, b2.symm.trans e2⟩, ⟨k, hk, b3.symm.trans e3⟩, ⟨l, hl, hl2, b4.symm.trans e4⟩, ⟨l, hl, hl2, b5.symm.trans e5⟩, ⟨0, by omega, b6.symm.trans e6⟩, j, by omega, b1.symm.trans e1, fun i hi => ?_⟩
    obtain ⟨_, _, _, _, _, _, _, ⟨f1, _⟩, _⟩ := hQ i (by omega)
    exact ⟨i, by omega, ((rQ i (by omega)).1).symm.trans f1⟩
  · obtain ⟨_, ⟨x, hx, e1, _⟩, _⟩ := hAa a ha
    obtain ⟨b1, b2, b3, _⟩ := rA a ha
    exact ⟨⟨x, hx, b1.symm.trans e1⟩, ⟨0, by omega, b2⟩, ⟨0, by omega, b3⟩⟩
