/-! the tokens of the built text -/
theorem rn_eq {L p m : Nat} {B : Nat → Nat} {q : Nat → Bool} (h1 : p ≤ m) (h2 : m ≤ L) (h3 : ∀ i, p ≤ i → i < m → q (B i) = true) (h4 : m < L → q (B m) = false) : rn L B q p = m := by
  unfold rn
  by_cases c : m < L
  · rw [srch_eq (m := m - p) (by omega) (by rw [show p + (m - p) = m by omega, h4 c]; rfl) (fun j hj => by rw [h3 (p + j) (by omega) (by omega)]; rfl)]
    omega
  · rw [srch_none (fun j hj => by rw [h3 (p + j) (by omega) (by omega)]; rfl)]
    omega
theorem tk_w {L s e : Nat} {B : Nat → Nat} (h1 : s < e) (h2 : e ≤ L) (h3 : ∀ i, s ≤ i → i < e → ltA (B i) = true) (h4 : e < L → ltA (B e) = false) : kdS L B s = 1 ∧ edS L B s = e := by
  have h5 := h3 s (Nat.le_refl _) h1
  have hs : s < L := by omega
  unfold kdS edS
  rw [if_pos hs, if_pos hs, if_pos h5, if_pos h5]
  exact ⟨rfl, rn_eq (by omega) h2 h3 h4⟩
theorem tk_n {L s e : Nat} {B : Nat → Nat} (h1 : s < e) (h2 : e ≤ L) (h3 : ∀ i, s ≤ i → i < e → dgA (B i) = true) (h4 : e < L → dgA (B e) = false) : kdS L B s = 2 ∧ edS L B s = e := by
  have h5 := h3 s (Nat.le_refl _) h1
  have h6 : ¬ ltA (B s) = true := fun q => by
    unfold dgA at h5
    unfold ltA at q
    have a := of_decide_eq_true h5
    have b := of_decide_eq_true q
    omega
  have hs : s < L := by omega
  unfold kdS edS
  rw [if_pos hs, if_pos hs, if_neg h6, if_neg h6, if_pos h5, if_pos h5]
  exact ⟨rfl, rn_eq (by omega) h2 h3 h4⟩
theorem tk_s {L s : Nat} {B : Nat → Nat} (h1 : s < L) (h2 : B s = 59) : kdS L B s = 3 ∧ edS L B s = s + 1 := by
  unfold kdS edS
  rw [if_pos h1, if_pos h1, h2]
  exact ⟨rfl, rfl⟩
/-- a piece lies in the text at s -/
def At (l : List Int32) (s : Nat) (p : List Int32) : Prop := s + p.length ≤ l.length ∧ ∀ i, i < p.length → l.getD (s + i) 0 = p.getD i 0
abbrev Bt (l : List Int32) (q : Nat) : Nat := ix (l.getD q 0)
theorem At.of (a p b : List Int32) : At (a ++ p ++ b) a.length p := by
  refine ⟨by simp only [List.length_append]; omega, fun i hi => ?_⟩
  rw [List.getD_eq_getElem?_getD, List.getD_eq_getElem?_getD, List.getElem?_append_left (by rw [List.length_append]; omega), List.getElem?_append_right (by omega), show a.length + i - a.length = i by omega]
theorem At.l {l p q : List Int32} {s : Nat} (h : At l s (p ++ q)) : At l s p := by
  obtain ⟨h1, h2⟩ := h
  rw [List.length_append] at h1 h2
  refine ⟨by omega, fun i hi => ?_⟩
  rw [h2 i (by omega), List.getD_eq_getElem?_getD, List.getD_eq_getElem?_getD, List.getElem?_append_left hi]
theorem At.r {l p q : List Int32} {s : Nat} (h : At l s (p ++ q)) : At l (s + p.length) q := by
  obtain ⟨h1, h2⟩ := h
  rw [List.length_append] at h1 h2
  refine ⟨by omega, fun i hi => ?_⟩
  rw [Nat.add_assoc, h2 (p.length + i) (by omega), List.getD_eq_getElem?_getD, List.getD_eq_getElem?_getD, List.getElem?_append_right (by omega), show p.length + i - p.length = i by omega]
theorem At.c {l : List Int32} {s c : Nat} (h : At l s [nI c]) (hc : c < 2 ^ 31) : s < l.length ∧ Bt l s = c := by
  obtain ⟨h1, h2⟩ := h
  refine ⟨h1, ?_⟩
  have := h2 0 (by show 0 < 1; omega)
  show ix (l.getD (s + 0) 0) = c
  rw [this]
  exact ix_nI hc
/-- no blank at q -/
def nbk (l : List Int32) (q : Nat) : Prop := q < l.length → isBl (Bt l q) = false
theorem tw {l : List Int32} {s j c : Nat} (hA : At l s (txb j)) (hj : j < 17) (hn : At l (s + slen j) [nI c]) (hc : c = 32 ∨ c = 59) : wb l.length (Bt l) s j = true ∧ edS l.length (Bt l) s = s + slen j ∧ nbk l s := by
  obtain ⟨n1, n2⟩ := hn.c (by omega)
  have hw := w_of j hj
  have hB : ∀ i, i < slen j → Bt l (s + i) = wch j i := fun i hi => by
    show ix (l.getD (s + i) 0) = ix (schr j i)
    rw [hA.2 i hi]
    rfl
  have hlt : ∀ i, s ≤ i → i < s + slen j → ltA (Bt l i) = true := fun i h1 h2 => by
    have := w_ch j hj (i - s) (by omega)
    rw [show i = s + (i - s) by omega, hB (i - s) (by omega)]
    exact ltA_iff.mpr this.2
  obtain ⟨k1, k2⟩ := tk_w (L := l.length) (B := Bt l) (s := s) (e := s + slen j) (by omega) (by omega) hlt (fun _ => by
    rw [n2]
    rcases hc with rfl | rfl <;> rfl)
  refine ⟨?_, k2, fun _ => ?_⟩
  · unfold wb
    rw [k1, k2, isW_iff.mpr ⟨by omega, hB⟩]
    rfl
  · have h0 := ltA_iff.mp (hlt s (Nat.le_refl _) (by omega))
    unfold isBl
    rw [beq_ne (by omega), beq_ne (by omega)]
    rfl
theorem sl1 : ∀ j, j < 17 → slen j ≠ 1 := by decide
theorem tn {l : List Int32} {s x c : Nat} (hA : At l s [nI x]) (hx : 97 ≤ x ∧ x ≤ 122) (hn : At l (s + 1) [nI c]) (hc : c = 32 ∨ c = 59) : (nmb l.length (Bt l) s = true ∧ nmC l.length (Bt l) s = nL x) ∧ edS l.length (Bt l) s = s + 1 ∧ nbk l s := by
  obtain ⟨a1, a2⟩ := hA.c (by omega)
  obtain ⟨n1, n2⟩ := hn.c (by omega)
  obtain ⟨k1, k2⟩ := tk_w (L := l.length) (B := Bt l) (s := s) (e := s + 1) (by omega) (by omega) (fun i h1 h2 => by
    rw [show i = s by omega, a2]
    exact ltA_iff.mpr hx) (fun _ => by
    rw [n2]
    rcases hc with rfl | rfl <;> rfl)
  refine ⟨⟨nmb_iff.mpr ⟨k1, by rw [k2]; omega, wd_no.mpr (fun j hj => ?_)⟩, ?_⟩, k2, fun _ => ?_⟩
  · cases hq : isW (Bt l) s (edS l.length (Bt l) s) j with
    | false => rfl
    | true =>
      have := (isW_iff.mp hq).1
      rw [k2] at this
      exact absurd (by omega) (sl1 j hj)
  · unfold nmC
    rw [k2, show s + 1 - s = 1 by omega]
    have a3 : Bt l (s + 0) = x := a2
    show nL (0 * 256 + (Bt l (s + 0) - 96 + 96)) = nL x
    rw [a3]
    congr 1
    omega
  · rw [a2]
    unfold isBl
    rw [beq_ne (by omega), beq_ne (by omega)]
    rfl
theorem td {l : List Int32} {s v c : Nat} (hA : At l s (digs v)) (hv : v < 100) (hn : At l (s + dgn v) [nI c]) (hc : c = 32 ∨ c = 59) : (nub l.length (Bt l) s = true ∧ nuV l.length (Bt l) s = v) ∧ edS l.length (Bt l) s = s + dgn v ∧ nbk l s := by
  obtain ⟨n1, n2⟩ := hn.c (by omega)
  by_cases h10 : v < 10
  · have hdn : dgn v = 1 := if_pos h10
    have hdg : digs v = [nI (48 + v)] := if_pos h10
    rw [hdg] at hA
    rw [hdn] at n1 n2 ⊢
    obtain ⟨a1, a2⟩ := hA.c (by omega)
    obtain ⟨k1, k2⟩ := tk_n (L := l.length) (B := Bt l) (s := s) (e := s + 1) (by omega) (by omega) (fun i h1 h2 => by
      rw [show i = s by omega, a2]
      exact decide_eq_true (by omega)) (fun _ => by
      rw [n2]
      rcases hc with rfl | rfl <;> rfl)
    refine ⟨⟨nub_iff.mpr (krS_2.mpr ⟨k1, by rw [k2]; omega⟩), ?_⟩, k2, fun _ => ?_⟩
    · unfold nuV
      rw [k2, show s + 1 - s = 1 by omega]
      have a3 : Bt l (s + 0) = 48 + v := a2
      show 10 * 0 + (Bt l (s + 0) - 48) = v
      rw [a3]
      omega
    · rw [a2]
      unfold isBl
      rw [beq_ne (by omega), beq_ne (by omega)]
      rfl
  · have hdn : dgn v = 2 := if_neg h10
    have hdg : digs v = [nI (48 + v / 10)] ++ [nI (48 + v % 10)] := if_neg h10
    rw [hdg] at hA
    rw [hdn] at n1 n2 ⊢
    obtain ⟨a1, a2⟩ := hA.l.c (by omega)
    obtain ⟨b1, b2⟩ := hA.r.c (by omega)
    have b2 : Bt l (s + 1) = 48 + v % 10 := b2
    obtain ⟨k1, k2⟩ := tk_n (L := l.length) (B := Bt l) (s := s) (e := s + 2) (by omega) (by omega) (fun i h1 h2 => by
      by_cases ci : i = s
      · rw [ci, a2]
        exact decide_eq_true (by omega)
      · rw [show i = s + 1 by omega, b2]
        exact decide_eq_true (by omega)) (fun _ => by
      rw [n2]
      rcases hc with rfl | rfl <;> rfl)
    refine ⟨⟨nub_iff.mpr (krS_2.mpr ⟨k1, by rw [k2]; omega⟩), ?_⟩, k2, fun _ => ?_⟩
    · unfold nuV
      rw [k2, show s + 2 - s = 2 by omega]
      have a3 : Bt l (s + 0) = 48 + v / 10 := a2
      show 10 * (10 * 0 + (Bt l (s + 0) - 48)) + (Bt l (s + 1) - 48) = v
      rw [a3, b2]
      omega
    · rw [a2]
      unfold isBl
      rw [beq_ne (by omega), beq_ne (by omega)]
      rfl
theorem ts {l : List Int32} {s : Nat} (hA : At l s [nI 59]) : kdS l.length (Bt l) s = 3 ∧ edS l.length (Bt l) s = s + 1 ∧ nbk l s := by
  obtain ⟨a1, a2⟩ := hA.c (by omega)
  obtain ⟨k1, k2⟩ := tk_s (L := l.length) (B := Bt l) a1 a2
  refine ⟨k1, k2, fun _ => ?_⟩
  rw [a2]
  rfl
theorem nx_0 {l : List Int32} {s e : Nat} (he : edS l.length (Bt l) s = e) (hl : e ≤ l.length) (hb : nbk l e) : nxt l.length (Bt l) s = e := by
  unfold nxt
  rw [he]
  exact rn_eq (Nat.le_refl _) hl (fun i h1 h2 => by omega) hb
theorem nx_1 {l : List Int32} {s e : Nat} (he : edS l.length (Bt l) s = e) (hA : At l e [nI 32]) (hb : nbk l (e + 1)) : nxt l.length (Bt l) s = e + 1 := by
  obtain ⟨a1, a2⟩ := hA.c (by omega)
  unfold nxt
  rw [he]
  refine rn_eq (by omega) (by omega) (fun i h1 h2 => ?_) hb
  rw [show i = e by omega, a2]
  rfl
