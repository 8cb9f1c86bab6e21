/-! both sides together -/
def rowH (Y : Sm) (j : Nat) : Nat → Int32 := fun q => gI Y.1 57 0 (718 * j + q)
/-- the answers of the askers are no more than those of all -/
def AnI (r : Nat → Int32) (A m : Nat) : Prop := ∀ a, a < A → ∃ x, x ≤ m ∧ r (52 + a) = nI x
theorem AnI.cg {r r' : Nat → Int32} {A m : Nat} (h : AnI r A m) (e : ∀ a, a < A → r' (52 + a) = r (52 + a)) : AnI r' A m := fun a ha => by
  rw [e a ha]; exact h a ha
/-- a state of the class that is in use -/
def St (Y : Sm) (n : Nat) (P : Pm) (r : Nat → Int32) (c : Nat) : Prop := Y.2 (n + 3) = Y.2 0 ∧ ∃ t q m s, CR Y n P r q m ∧ GR P r t q m s ∧ t ≤ 500 * c ∧ s ≤ 40 + c ∧ AnI r P.2.1 m
def KP (Y : Sm) (P : Pm) (tu ro : Nat) : Prop := MP Y P ∧ WI P ∧ SetI P tu ro ∧ gI Y.1 48 0 19 = (-1 : Int32) ∧ (Y.2 0 ≠ Y.2 1 ∧ Y.2 0 < 3 ∧ Y.2 1 < 3) ∧ (∃ x, x ≤ 99 ∧ P.2.2.1 2 = nI x) ∧ (∃ x, x ≤ 99 ∧ P.2.2.1 3 = nI x)
def Un (Y : Sm) (P : Pm) (u pos c : Nat) : Prop := (pos < 8 ∧ u ≤ 8) ∧ gI Y.1 37 0 1 = nI pos ∧ gI Y.1 37 0 2 = nI u ∧ gI Y.1 48 0 17 = nI u ∧ ∀ j, j < u → St Y (hx pos u j) P (rowH Y j) c
def Sv (Y : Sm) (P : Pm) (b : Bool) (c : Nat) : Prop := gI Y.1 0 0 11 = bI b ∧ gI Y.1 48 0 18 = bI b ∧ (b = true → St Y 2 P (gI Y.1 56 0) c)
def IoI (Y : Sm) : Prop := ∃ L, L ≤ 500 ∧ gI Y.1 1 0 1 = nI L ∧ gI Y.1 48 0 23 = nI L ∧ ∀ j, j < L → ∃ b : Int8, gI Y.1 2 0 j = b.toInt32 ∧ gI Y.1 60 0 j = b.toInt32
def IoE (Y : Sm) : Prop := gI Y.1 0 0 4 = gI Y.1 48 0 31 ∧ gI Y.1 0 0 5 = gI Y.1 48 0 32
def IoO (Y : Sm) : Prop := ∃ w, w ≤ 60 ∧ gI Y.1 0 0 3 = nI w ∧ gI Y.1 48 0 41 = nI w ∧ ∀ j, j < w → gI Y.1 20 0 j &&& nI 255 = gI Y.1 65 0 j
def Io (Y : Sm) : Prop := IoI Y ∧ IoE Y ∧ IoO Y
/-- a name: base 256 and base 32 -/
def n256 (w : List Nat) : Nat := w.foldl (fun x a => x * 256 + (a + 96)) 0
def n32 (w : List Nat) : Nat := w.foldl (fun x a => x * 32 + a) 0
def Wd (w : List Nat) : Prop := 1 ≤ w.length ∧ w.length ≤ 6 ∧ ∀ a ∈ w, 1 ≤ a ∧ a ≤ 26
def NmR (x y : Int64) : Prop := ∃ w, Wd w ∧ x = Int64.ofNat (n256 w) ∧ y = Int64.ofNat (n32 w)
def NmI (Y : Sm) (P : Pm) : Prop := (∀ k, k < P.1 → NmR (gJ Y.1 6 (Y.2 0) k) (gJ Y.1 50 0 k)) ∧ ∀ a, a < P.2.1 → NmR (gJ Y.1 8 (Y.2 0) a) (gJ Y.1 51 0 a)
def R6 (Y : Sm) (c : Nat) (P : Pm) (tu ro u pos : Nat) (b : Bool) : Prop := KP Y P tu ro ∧ St Y 0 P (gI Y.1 52 0) c ∧ Un Y P u pos c ∧ Sv Y P b c ∧ Io Y ∧ NmI Y P
def RR (Y : Sm) (c : Nat) : Prop := ∃ P tu ro u pos b, R6 Y c P tu ro u pos b
theorem MP.cg {Y Z : Sm} {P : Pm} (h : MP Y P) (h1 : ∀ x, 1 ≤ x → x ≤ 7 → gI Z.1 48 0 x = gI Y.1 48 0 x) (h2 : gI Z.1 49 0 = gI Y.1 49 0) : MP Z P := by
  obtain ⟨g1, g2, g3, g4, g5⟩ := h
  unfold MP
  rw [h1 1 (by omega) (by omega), h1 2 (by omega) (by omega), h2]
  exact ⟨g1, g2, g3, fun j hj => (h1 _ (by omega) (by omega)).trans (g4 j hj), g5⟩
theorem KP.a8 {Y : Sm} {P : Pm} {tu ro : Nat} (h : KP Y P tu ro) : 0 < P.1 ∧ P.1 ≤ 5 ∧ 0 < P.2.1 ∧ P.2.1 ≤ 8 := h.1.2.2.1
theorem KP.cg {Y Z : Sm} {P : Pm} {tu ro : Nat} (h : KP Y P tu ro) (h1 : ∀ x, 1 ≤ x → x ≤ 7 → gI Z.1 48 0 x = gI Y.1 48 0 x) (h2 : gI Z.1 49 0 = gI Y.1 49 0) (h3 : gI Z.1 48 0 19 = gI Y.1 48 0 19) (h4 : Z.2 0 = Y.2 0) (h5 : Z.2 1 = Y.2 1) : KP Z P tu ro := by
  obtain ⟨a1, a2, a3, a4, a5, a6⟩ := h
  refine ⟨a1.cg h1 h2, a2, a3, h3.trans a4, ?_, a6⟩
  rw [h4, h5]; exact a5
theorem St.up {Y : Sm} {n c c' : Nat} {P : Pm} {r : Nat → Int32} (h : St Y n P r c) (hc : c ≤ c') : St Y n P r c' := by
  obtain ⟨h1, t, q, m, s, a, b, d, e, f⟩ := h
  exact ⟨h1, t, q, m, s, a, b, by omega, by omega, f⟩
theorem St.frk {Y Z : Sm} {n c : Nat} {P : Pm} {r : Nat → Int32} (hA : P.2.1 ≤ 8) (h : St Y n P r c) (h0 : Z.2 0 = Y.2 0) (hG : Z.2 (n + 3) = Y.2 (n + 3)) (hI : ∀ k i, CRk n k i → gI Z.1 k i = gI Y.1 k i) (hJ : gJ Z.1 25 n = gJ Y.1 25 n) : St Z n P r c := by
  obtain ⟨h1, t, q, m, s, a, b⟩ := h
  exact ⟨by rw [hG, h0]; exact h1, t, q, m, s, a.frk hA hG hI hJ, b⟩
theorem St.c7 {Y : Sm} {n c : Nat} {P : Pm} {r r' : Nat → Int32} (h3 : P.1 ≤ 5 ∧ P.2.1 ≤ 8) (h : St Y n P r c) (e : Eq7 r r') : St Y n P r' c := by
  obtain ⟨h1, t, q, m, s, a, b, d, f, g⟩ := h
  exact ⟨h1, t, q, m, s, a.c7 h3 b.2.1.1 e, b.c7 h3 e, d, f, g.cg (fun a ha => e _ (by omega))⟩
/-- what a query may change -/
def QK (k i : Nat) : Prop := k ∈ [39, 40, 41, 43, 45, 46, 47, 48, 52, 54, 55, 58, 59, 66, 67] ∨ S2 1 k i
def QF (Y Z : Sm) : Prop := (∀ a, a ≠ 4 → Z.2 a = Y.2 a) ∧ (∀ k i, ¬ QK k i → gI Z.1 k i = gI Y.1 k i ∧ gJ Z.1 k i = gJ Y.1 k i) ∧ (∀ x, x ≠ 0 → gI Z.1 48 0 x = gI Y.1 48 0 x) ∧ Eq7 (gI Y.1 52 0) (gI Z.1 52 0)
theorem QF.rf {Y : Sm} : QF Y Y := ⟨fun _ _ => rfl, fun _ _ _ => ⟨rfl, rfl⟩, fun _ _ => rfl, fun _ _ => rfl⟩
theorem QF.tr {Y Z W : Sm} (h : QF Y Z) (h2 : QF Z W) : QF Y W := by
  obtain ⟨a, b, d, e⟩ := h
  obtain ⟨a2, b2, d2, e2⟩ := h2
  exact ⟨fun x hx => (a2 x hx).trans (a x hx), fun k i hk => ⟨(b2 k i hk).1.trans (b k i hk).1, (b2 k i hk).2.trans (b k i hk).2⟩, fun x hx => (d2 x hx).trans (d x hx), fun q hq => (e2 q hq).trans (e q hq)⟩
theorem QK_ne {n k i : Nat} (hne : n ≠ 1) (h : CRk n k i) : ¬ QK k i := by
  unfold CRk S2 at h
  unfold QK S2
  simp only [List.mem_cons, List.mem_nil_iff, or_false] at *
  omega
theorem QK_k {k i : Nat} (h : k ∈ [0, 1, 2, 3, 4, 5, 6, 7, 8, 9, 10, 11, 20, 37, 49, 50, 51, 53, 56, 57, 60, 61, 62, 63, 64, 65, 68]) : ¬ QK k i := by
  unfold QK S2
  simp only [List.mem_cons, List.mem_nil_iff, or_false] at *
  omega
theorem hx_ne {pos u j : Nat} : hx pos u j ≠ 0 ∧ hx pos u j ≠ 1 ∧ hx pos u j ≠ 2 := by
  unfold hx
  omega
theorem Io.cg {Y Z : Sm} (h : Io Y) (h1 : gI Z.1 1 0 1 = gI Y.1 1 0 1) (h2 : gI Z.1 2 0 = gI Y.1 2 0) (h60 : gI Z.1 60 0 = gI Y.1 60 0) (h3 : gI Z.1 0 0 3 = gI Y.1 0 0 3) (h4 : gI Z.1 0 0 4 = gI Y.1 0 0 4) (h5 : gI Z.1 0 0 5 = gI Y.1 0 0 5) (h20 : gI Z.1 20 0 = gI Y.1 20 0) (h65 : gI Z.1 65 0 = gI Y.1 65 0) (h48 : ∀ x, x = 23 ∨ x = 31 ∨ x = 32 ∨ x = 41 → gI Z.1 48 0 x = gI Y.1 48 0 x) : Io Z := by
  unfold Io IoI IoE IoO at h ⊢
  rw [h1, h2, h60, h3, h4, h5, h20, h65, h48 23 (by omega), h48 31 (by omega), h48 32 (by omega), h48 41 (by omega)]
  exact h
theorem NmI.cg {Y Z : Sm} {P : Pm} (h : NmI Y P) (h0 : Z.2 0 = Y.2 0) (h6 : gJ Z.1 6 (Y.2 0) = gJ Y.1 6 (Y.2 0)) (h8 : gJ Z.1 8 (Y.2 0) = gJ Y.1 8 (Y.2 0)) (h50 : gJ Z.1 50 0 = gJ Y.1 50 0) (h51 : gJ Z.1 51 0 = gJ Y.1 51 0) : NmI Z P := by
  unfold NmI at h ⊢
  rw [h0, h6, h8, h50, h51]
  exact h
theorem R6.q {Y Z : Sm} {c tu ro u pos : Nat} {P : Pm} {b : Bool} (h : R6 Y c P tu ro u pos b) (hq : QF Y Z) : R6 Z c P tu ro u pos b := by
  obtain ⟨hK, h0, hU, hS, hI, hN⟩ := h
  obtain ⟨a, g, d, e⟩ := hq
  have hA := hK.a8
  have gi : ∀ k i, k ∈ [0, 1, 2, 3, 4, 5, 6, 7, 8, 9, 10, 11, 20, 37, 49, 50, 51, 53, 56, 57, 60, 61, 62, 63, 64, 65, 68] → gI Z.1 k i = gI Y.1 k i := fun k i hk => (g k i (QK_k hk)).1
  have gj : ∀ k i, k ∈ [0, 1, 2, 3, 4, 5, 6, 7, 8, 9, 10, 11, 20, 37, 49, 50, 51, 53, 56, 57, 60, 61, 62, 63, 64, 65, 68] → gJ Z.1 k i = gJ Y.1 k i := fun k i hk => (g k i (QK_k hk)).2
  have hs : ∀ n r, n ≠ 1 → St Y n P r c → St Z n P r c := fun n r hn h => h.frk hA.2.2.2 (a 0 (by omega)) (a _ (by omega)) (fun k i hk => (g k i (QK_ne hn hk)).1) (g 25 n (QK_ne hn (Or.inr (Or.inl ⟨rfl, by decide⟩)))).2
  refine ⟨hK.cg (fun x h1 _ => d x (by omega)) (gi 49 0 (by decide)) (d 19 (by omega)) (a 0 (by omega)) (a 1 (by omega)), (hs 0 _ (by omega) h0).c7 ⟨hA.2.1, hA.2.2.2⟩ e, ?_, ?_, hI.cg (by rw [gi 1 0 (by decide)]) (gi 2 0 (by decide)) (gi 60 0 (by decide)) (by rw [gi 0 0 (by decide)]) (by rw [gi 0 0 (by decide)]) (by rw [gi 0 0 (by decide)]) (gi 20 0 (by decide)) (gi 65 0 (by decide)) (fun x hx => d x (by omega)), hN.cg (a 0 (by omega)) (gj 6 _ (by decide)) (gj 8 _ (by decide)) (gj 50 0 (by decide)) (gj 51 0 (by decide))⟩
  · obtain ⟨p1, p2, p3, p4, p5⟩ := hU
    refine ⟨p1, by rw [gi 37 0 (by decide)]; exact p2, by rw [gi 37 0 (by decide)]; exact p3, (d 17 (by omega)).trans p4, fun j hj => ?_⟩
    have er : rowH Z j = rowH Y j := by
      unfold rowH
      rw [gi 57 0 (by decide)]
    rw [er]
    exact hs _ _ hx_ne.2.1 (p5 j hj)
  · obtain ⟨p1, p2, p3⟩ := hS
    refine ⟨by rw [gi 0 0 (by decide)]; exact p1, (d 18 (by omega)).trans p2, fun hb => ?_⟩
    rw [gi 56 0 (by decide)]
    exact hs 2 _ (by omega) (p3 hb)
theorem R6.up {Y : Sm} {c c' tu ro u pos : Nat} {P : Pm} {b : Bool} (h : R6 Y c P tu ro u pos b) (hc : c ≤ c') : R6 Y c' P tu ro u pos b := by
  obtain ⟨hK, h0, hU, hS, hI⟩ := h
  exact ⟨hK, h0.up hc, ⟨hU.1, hU.2.1, hU.2.2.1, hU.2.2.2.1, fun j hj => (hU.2.2.2.2 j hj).up hc⟩, ⟨hS.1, hS.2.1, fun hb => (hS.2.2 hb).up hc⟩, hI⟩
/-- the class's part of a query, the model's part -/
def QC (Y Z : Sm) : Prop := (∀ a, a ≠ 4 → Z.2 a = Y.2 a) ∧ ∀ k i, ¬ (k ∈ [39, 40, 41, 43, 45, 46, 47] ∨ S2 1 k i) → gI Z.1 k i = gI Y.1 k i ∧ gJ Z.1 k i = gJ Y.1 k i
def QM (Y Z : Sm) : Prop := Z.2 = Y.2 ∧ (∀ k i, ¬ k ∈ [48, 52, 54, 55, 58, 59] → gI Z.1 k i = gI Y.1 k i ∧ gJ Z.1 k i = gJ Y.1 k i) ∧ (∀ x, x ≠ 0 → gI Z.1 48 0 x = gI Y.1 48 0 x) ∧ Eq7 (gI Y.1 52 0) (gI Z.1 52 0)
theorem QC.rf {Y : Sm} : QC Y Y := ⟨fun _ _ => rfl, fun _ _ _ => ⟨rfl, rfl⟩⟩
theorem QC.tr {Y Z W : Sm} (h : QC Y Z) (h2 : QC Z W) : QC Y W := ⟨fun x hx => (h2.1 x hx).trans (h.1 x hx), fun k i hk => ⟨(h2.2 k i hk).1.trans (h.2 k i hk).1, (h2.2 k i hk).2.trans (h.2 k i hk).2⟩⟩
theorem QC.i {Y Z : Sm} (h : QC Y Z) {k i : Nat} (hk : ¬ (k ∈ [39, 40, 41, 43, 45, 46, 47] ∨ S2 1 k i)) : gI Z.1 k i = gI Y.1 k i := (h.2 k i hk).1
theorem QC_k {k i : Nat} (h : 48 ≤ k) : ¬ (k ∈ [39, 40, 41, 43, 45, 46, 47] ∨ S2 1 k i) := by
  unfold S2
  simp only [List.mem_cons, List.mem_nil_iff, or_false] at *
  omega
theorem QC.m {Y Z : Sm} (h : QC Y Z) {k i : Nat} (hk : 48 ≤ k) : gI Z.1 k i = gI Y.1 k i := (h.2 k i (QC_k hk)).1
theorem QC.f {Y Z : Sm} (h : QC Y Z) : QF Y Z := ⟨h.1, fun k i hk => h.2 k i (fun z => hk (by
  rcases z with z | z
  · left
    simp only [List.mem_cons, List.mem_nil_iff, or_false] at *
    omega
  · exact Or.inr z)), fun x _ => by rw [h.m (by omega)], fun q _ => by rw [h.m (by omega)]⟩
theorem QM.f {Y Z : Sm} (h : QM Y Z) : QF Y Z := ⟨fun a _ => by rw [h.1], fun k i hk => h.2.1 k i (fun z => hk (Or.inl (by
  simp only [List.mem_cons, List.mem_nil_iff, or_false] at *
  omega))), h.2.2.1, h.2.2.2⟩
theorem QM.rf {Y : Sm} : QM Y Y := ⟨rfl, fun _ _ _ => ⟨rfl, rfl⟩, fun _ _ => rfl, fun _ _ => rfl⟩
theorem QM.tr {Y Z W : Sm} (h : QM Y Z) (h2 : QM Z W) : QM Y W := ⟨h2.1.trans h.1, fun k i hk => ⟨(h2.2.1 k i hk).1.trans (h.2.1 k i hk).1, (h2.2.1 k i hk).2.trans (h.2.1 k i hk).2⟩, fun x hx => (h2.2.2.1 x hx).trans (h.2.2.1 x hx), fun q hq => (h2.2.2.2 q hq).trans (h.2.2.2 q hq)⟩
theorem QM.told {Y : Sm} {v : Int32} : QM Y (sI Y 48 0 0 v) := by
  refine ⟨rfl, fun k i hk => ⟨?_, rfl⟩, fun x hx => ?_, fun q _ => ?_⟩
  · rw [gI_sIk (fun z => hk (by rw [z]; decide))]
  · rw [gI_sIv, upd_ne hx]
  · rw [gI_sIk (by omega)]
theorem QM.sF {Y : Sm} {k : Nat} {f : Nat → Int32} (hk : k = 54 ∨ k = 55 ∨ k = 58 ∨ k = 59) : QM Y (sF Y k 0 f) := by
  refine ⟨rfl, fun k' i hk' => ⟨?_, rfl⟩, fun x hx => ?_, fun q _ => ?_⟩
  · rw [gI_sFk (fun z => hk' (by rw [z]; rcases hk with rfl | rfl | rfl | rfl <;> decide))]
  · rw [gI_sFk (by omega)]
  · rw [gI_sFk (by omega)]
theorem QC.kf {Y Z : Sm} {l : List Nat} (h : Fr (KS l) Y Z) (hl : ∀ k, k ∈ l → k ∈ [39, 40, 41, 43, 45, 46, 47]) : QC Y Z := ⟨fun a _ => by rw [h.1], fun k i hk => h.2 k i (fun z => hk (Or.inl (hl k z)))⟩
theorem QC.s1 {Y Z : Sm} (h : Fr (SS 1) Y Z) : QC Y Z := ⟨fun a _ => by rw [h.1], fun k i hk => h.2 k i (fun z => hk (by
  rcases z with z | z | z | z
  · left
    simp only [List.mem_cons, List.mem_nil_iff, or_false] at *
    omega
  · exact Or.inr (Or.inl z)
  · exact Or.inr (Or.inr (Or.inl z))
  · exact Or.inr (Or.inr (Or.inr z))))⟩
theorem QC.s2 {Y Z : Sm} {v : Nat} (h : Fr (S2 1) (sG Y 4 v) Z) : QC Y Z := ⟨fun a ha => by rw [h.1, g_sG, ug_ne ha], fun k i hk => ⟨(h.gI (fun z => hk (Or.inr z))).trans (by rw [gI_sG]), (h.gJ (fun z => hk (Or.inr z))).trans (by rw [gJ_sG])⟩⟩
/-! how the law's cases are met -/
def Cok (f g : Sm → Option (Int32 × Sm)) (Y : Sm) (c : Nat) : Prop := ∃ k Z1 v Z2, f Y = some (k, Z1) ∧ g Z1 = some (v, Z2) ∧ gI Z1.1 68 = gI Y.1 68 ∧ gI Z2.1 68 = gI Y.1 68 ∧ gI Z2.1 48 0 0 = k ∧ (k = nI 0 → gJ Z2.1 66 0 0 = v.toInt64) ∧ RR Z2 (c + 1)
def Sok (f g : Sm → Option (Int32 × Sm)) (Y : Sm) (c : Nat) : Prop := ∃ v Z1 Z2, f Y = some (v, Z1) ∧ g Z1 = some (v, Z2) ∧ gI Z1.1 68 = gI Y.1 68 ∧ gI Z2.1 68 = gI Y.1 68 ∧ RR Z2 (c + 1)
def CqS {α : Type} (F : Sm → Option (α × Sm)) (Y : Sm) (o : α) : Prop := ∃ Z, F Y = some (o, Z) ∧ QC Y Z
def MqS (g : Sm → Option (Int32 × Sm)) (Y : Sm) (v k : Int32) : Prop := ∃ Z, g Y = some (v, Z) ∧ QM Y Z ∧ gI Z.1 48 0 0 = k
theorem QF.j66 {Y : Sm} {v : Int64} : QF Y (sJ Y 66 0 0 v) := ⟨fun _ _ => rfl, fun k i hk => ⟨rfl, by
  funext q
  rw [gJ_sJ, if_neg (fun z => hk (Or.inl (by rw [z.1]; decide)))]⟩, fun _ _ => rfl, fun _ _ => rfl⟩
theorem s_q {f g : Sm → Option (Int32 × Sm)} {Y : Sm} {c tu ro u pos : Nat} {P : Pm} {b : Bool} {v : Int32} (h : R6 Y c P tu ro u pos b) (hf : CqS f Y v) (hg : ∀ W, QF Y W → gI W.1 52 = gI Y.1 52 → ∃ k, MqS g W v k) : Sok f g Y c := by
  obtain ⟨Z, e, hq⟩ := hf
  obtain ⟨k, Z2, e2, hm, _⟩ := hg Z hq.f (funext fun i => hq.m (by omega))
  have e68 : gI Z.1 68 = gI Y.1 68 := funext fun i => hq.m (by omega)
  exact ⟨v, Z, Z2, e, e2, e68, (funext fun i => (hm.2.1 68 i (by decide)).1).trans e68, P, tu, ro, u, pos, b, ((h.q hq.f).q hm.f).up (by omega)⟩
theorem w_val {f g : Sm → Option (Int32 × Sm)} {F : Sm → Option ((Int32 ⊕ Nat) × Sm)} {kx : Nat → Sm → Option (Int32 × Sm)} {Y : Sm} {c tu ro u pos : Nat} {P : Pm} {b : Bool} {v : Int32} (h : R6 Y c P tu ro u pos b) (ef : f Y = bx (F Y) kx (fun v Y1 => wr (sJ Y1 66 0 0 v.toInt64) fun Y4 => some (nI 0, Y4))) (hf : CqS F Y (.inl v)) (hg : ∀ W, QF Y W → gI W.1 52 = gI Y.1 52 → MqS g W v (nI 0)) : Cok f g Y c := by
  obtain ⟨Z, e, hq⟩ := hf
  have hq2 : QF Y (sJ Z 66 0 0 v.toInt64) := hq.f.tr QF.j66
  obtain ⟨Z2, e2, hm, hk⟩ := hg _ hq2 (funext fun i => hq.m (by omega))
  have e68 : gI Z.1 68 = gI Y.1 68 := funext fun i => hq.m (by omega)
  refine ⟨nI 0, sJ Z 66 0 0 v.toInt64, v, Z2, ?_, e2, e68, (funext fun i => (hm.2.1 68 i (by decide)).1).trans e68, hk, fun _ => ?_, P, tu, ro, u, pos, b, ((h.q hq2).q hm.f).up (by omega)⟩
  · rw [ef, e, bx_l, wr_t]
  · rw [(hm.2.1 66 0 (by decide)).2, gJ_sJ, if_pos ⟨rfl, rfl, rfl⟩]
theorem bx_r {α ρ : Type} {x : Nat} {Z : Sm} {g : Nat → Sm → Option ρ} {k : α → Sm → Option ρ} : bx (some (.inr x, Z)) g k = g x Z := by
  have h : ∀ m, m = some (.inr x, Z) → bx m g k = g x Z := fun m e => by
    rw [e]
    unfold bx
    rfl
  exact h _ rfl
theorem w_exc {f g : Sm → Option (Int32 × Sm)} {F : Sm → Option ((Int32 ⊕ Nat) × Sm)} {kx : Nat → Sm → Option (Int32 × Sm)} {kv : Int32 → Sm → Option (Int32 × Sm)} {Y : Sm} {c tu ro u pos : Nat} {P : Pm} {b : Bool} {x : Nat} {k : Int32} (h : R6 Y c P tu ro u pos b) (ef : f Y = bx (F Y) kx kv) (hk0 : k ≠ nI 0) (hx : ∀ Z, kx x Z = some (k, Z)) (hf : CqS F Y (.inr x)) (hg : ∀ W, QF Y W → gI W.1 52 = gI Y.1 52 → ∃ v, MqS g W v k) : Cok f g Y c := by
  obtain ⟨Z, e, hq⟩ := hf
  obtain ⟨v, Z2, e2, hm, hk⟩ := hg Z hq.f (funext fun i => hq.m (by omega))
  have e68 : gI Z.1 68 = gI Y.1 68 := funext fun i => hq.m (by omega)
  refine ⟨k, Z, v, Z2, ?_, e2, e68, (funext fun i => (hm.2.1 68 i (by decide)).1).trans e68, hk, fun z => absurd z hk0, P, tu, ro, u, pos, b, ((h.q hq.f).q hm.f).up (by omega)⟩
  rw [ef, e, bx_r, hx]
