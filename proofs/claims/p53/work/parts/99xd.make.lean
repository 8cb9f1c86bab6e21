/-! cells of the text that is built are made, references put into them -/
theorem ble_nf {a b : Nat} (h : b < a) : Nat.ble a b = false := by
  cases hb : Nat.ble a b with
  | false => rfl
  | true => exact absurd (Nat.le_of_ble_eq_true hb) (by omega)
theorem shp_b (n : Nat) : shp (1000 + n) = (1, 1, n) := by
  have h : Nat.ble 1000 (1000 + n) = true := Nat.ble_eq_true_of_le (by omega)
  unfold shp
  rw [h]
  show ((1 : Nat), (1 : Nat), 1000 + n - 1000) = (1, 1, n)
  rw [Nat.add_sub_cancel_left]
theorem k68b (n : Nat) : Nat.beq (1000 + n) 68 = false := beq_ne (by omega)
theorem sr_b (g : Nat → Nat) (n i j : Nat) : sr g (1000 + n) i j = none := by
  unfold sr
  rw [ble_nf (by omega : 21 < 1000 + n), ble_nf (by omega : 37 < 1000 + n), ble_nf (by omega : 39 < 1000 + n), ble_nf (by omega : 42 < 1000 + n), ble_nf (by omega : 44 < 1000 + n), beq_ne (by omega : 1000 + n ≠ 49), beq_ne (by omega : 1000 + n ≠ 50)]
  rfl
theorem cF_x {g : Nat → Nat} {k : Nat} (h : 48 ≤ k) (h7 : k ≤ 7000) (h6 : k ≠ 66) (h8 : k ≠ 68) : cF g k = g (2000 + k) := by
  unfold cF
  rw [ble_nf (by omega : 47 < k), beq_ne h8, beq_ne h6, ble_nf (by omega : k < 7001)]
  rfl
theorem cF_new {g : Nat → Nat} {k : Nat} (hk : 48 ≤ k ∧ k ≤ 7000 ∧ k ≠ 66 ∧ k ≠ 68) (L u v n : Nat) : cF (ug g (2000 + k) (g (2000 + k) + 1)) = (zN (zU g L u v) k n).1 := by
  funext a
  show _ = if a = k then cF g k + 1 else cF g a
  by_cases h : a = k
  · subst h
    rw [if_pos rfl, cF_x hk.1 hk.2.1 hk.2.2.1 hk.2.2.2, cF_x hk.1 hk.2.1 hk.2.2.1 hk.2.2.2, ug_at]
  · rw [if_neg h]
    unfold cF
    rw [ug_ne (by omega)]
theorem sr_new {g : Nat → Nat} {k : Nat} (hk : 48 ≤ k ∧ k ≤ 7000 ∧ k ≠ 66 ∧ k ≠ 68) (hs : ∀ j, sr g k (cF g k) j = none) (L u v n : Nat) : ∀ k' i j, i < (zN (zU g L u v) k n).1 k' → sr (ug g (2000 + k) (g (2000 + k) + 1)) k' i j = (zN (zU g L u v) k n).2.1 k' i j := by
  intro k' i j hi
  have e : sr (ug g (2000 + k) (g (2000 + k) + 1)) k' i j = sr g k' i j := by
    refine sr_cg (fun _ => ?_) (fun _ => ?_) (fun h => ?_) (fun _ => ?_) (fun _ => ?_)
    · unfold sr0; rw [ug_ne (by omega), ug_ne (by omega)]
    · unfold sr3; rw [ug_ne (by omega)]
    · subst h
      have h11 : i < 11 := by
        have h9 : i < (if 21 = k then cF g k + 1 else cF g 21) := hi
        rw [if_neg (by omega), cF_47 (by decide)] at h9
        exact h9
      unfold sr21; rw [ug_ne (by omega)]
    · unfold sr49; rw [ug_ne (by omega), ug_ne (by omega)]
    · unfold sr50; rw [ug_ne (by omega), ug_ne (by omega)]
  rw [e]
  show sr g k' i j = if k' = k ∧ i = cF g k then none else sr g k' i j
  by_cases h : k' = k ∧ i = cF g k
  · obtain ⟨rfl, rfl⟩ := h
    rw [if_pos ⟨rfl, rfl⟩]
    exact hs j
  · rw [if_neg h]
/-- one cell of kind k more -/
def mkC (Y : Sm) (k : Nat) : Sm := (Y.1, ug Y.2 (2000 + k) (Y.2 (2000 + k) + 1))
section MK
variable {L y d B n pc : Nat} {ls : Lo} {st : List Av} {Y : Sm} {P : Option Av → Sm → Prop} {E : Nat → Sm → Prop}
theorem m_made (k nf c : Nat) (hk : 48 ≤ k ∧ k ≤ 7000 ∧ k ≠ 66 ∧ k ≠ 68) (hs : ∀ j, sr Y.2 k (cF Y.2 k) j = none) (hc : 1 ≤ c ∧ nf ≤ 6 * c) {z0 : Zz} {X0 : Mm} {u np : Nat} {l2 : Lo} {s2 : List Av} (hu : u + (n + c) ≤ B) (kk : WL L y d B n np l2 s2 (mkC Y k) P E) : V y [] d B (6 * B) allw z0 X0 (qn P) (qn E) (zN (zU Y.2 L u (6 * u)) k nf) np l2 s2 Y.1 := by
  refine v_refs (cF (mkC Y k).2) (sr (mkC Y k).2) (cF_new hk L u (6 * u) nf) (sr_new hk hs L u (6 * u) nf) ?_
  exact v_up (u + c) (6 * (u + c)) (by show u + 1 ≤ u + c; omega) (by show 6 * u + nf ≤ 6 * (u + c); omega) (kk z0 X0 (u + c) (by omega))
theorem m_vac {z0 : Zz} {X0 : Mm} {u v k : Nat} {Q : Prop} (h : (∀ j, gI Y.1 k (cF Y.2 k) j = 0) → V y [] d B (6 * B) allw z0 X0 (qn P) (qn E) (zU Y.2 L u v) pc ls st Y.1) : V y [] d B (6 * B) allw z0 X0 (qn P) (qn E) (zU Y.2 L u v) pc ls st Y.1 := by
  by_cases hz : ∀ j, gI Y.1 k (cF Y.2 k) j = 0
  · exact h hz
  · intro l G ad0 p e s m args below meth c0 C ad H locs cells slots la U hl ol os
    have hD := U.2.1.resolve_left cF_ne
    exact absurd (fun j => (hD k (cF Y.2 k) (Nat.le_refl _) j).1) hz
theorem rok_n {u n c B nf : Nat} (hu : u + (n + c) ≤ B) (hc : 1 ≤ c ∧ nf ≤ 6 * c) : (Nat.ble (u + 1) B && Nat.ble (6 * u + nf) (6 * B)) = true := by
  rw [Nat.ble_eq_true_of_le (by omega : u + 1 ≤ B), Nat.ble_eq_true_of_le (by omega : 6 * u + nf ≤ 6 * B)]
  rfl
theorem m_newO (K : ∀ p, chk y p = true) {v9 : Int32} {a c9 cc np : Nat} (k : Nat) {nf : Nat} (ht : tb y pc = (90, v9, a, c9, cc, np)) (hk : shp k = (0, c9, nf)) (hn : (vck c9).2.2 = nf) (hc9 : Nat.ble (c9 + 1) vcl.length = true) (hb : 48 ≤ k ∧ k ≤ 7000 ∧ k ≠ 66 ∧ k ≠ 68) (hs : ∀ j, sr Y.2 k (cF Y.2 k) j = none) (hnf : nf ≤ 6)
    (kk : (∀ j, gI Y.1 k (cF Y.2 k) j = 0) → WL L y d B n np ls (aR k (cF Y.2 k) :: st) (mkC Y k) P E) : WL L y d B (n + 1) pc ls st Y P E := fun z0 X0 u hu =>
  m_vac (k := k) (Q := True) fun hz => v_newO K k ht hk hn hc9 cF_ne (rok_n (c := 1) hu ⟨by omega, by omega⟩) (m_made k nf 1 hb hs ⟨by omega, by omega⟩ hu (kk hz))
theorem m_newI (K : ∀ p, chk y p = true) {v9 x : Int32} {b cc np : Nat} (ht : tb y pc = (91, v9, 0, b, cc, np)) (hx : x = nI 5)
    (kk : (∀ j, gI Y.1 48 (cF Y.2 48) j = 0) → WL L y d B n np ls (aR 48 (cF Y.2 48) :: st) (mkC Y 48) P E) : WL L y d B (n + 1) pc ls (aI x :: st) Y P E := fun z0 X0 u hu =>
  m_vac (k := 48) (Q := True) fun hz => v_newAI K 48 ht rfl rfl hx rfl cF_ne (rok_n (c := 1) hu ⟨by omega, by omega⟩) (m_made 48 5 1 ⟨by omega, by omega, by omega, by omega⟩ (fun _ => rfl) ⟨by omega, by omega⟩ hu (kk hz))
theorem m_newB (K : ∀ p, chk y p = true) {v9 x : Int32} {b cc np : Nat} (N c : Nat) (ht : tb y pc = (91, v9, 1, b, cc, np)) (hx : x = nI N) (hN : N ≤ 6 * c ∧ 1 ≤ c ∧ N ≤ 6000)
    (kk : (∀ j, gI Y.1 (1000 + N) (cF Y.2 (1000 + N)) j = 0) → WL L y d B n np ls (aR (1000 + N) (cF Y.2 (1000 + N)) :: st) (mkC Y (1000 + N)) P E) : WL L y d B (n + c) pc ls (aI x :: st) Y P E := fun z0 X0 u hu =>
  m_vac (k := 1000 + N) (Q := True) fun hz => v_newAB K (1000 + N) ht (shp_b N) (k68b N) hx (Nat.ble_eq_true_of_le (by omega)) cF_ne (rok_n (c := c) hu ⟨by omega, by omega⟩) (m_made (1000 + N) N c ⟨by omega, by omega, by omega, by omega⟩ (fun j => sr_b _ _ _ _) ⟨by omega, by omega⟩ hu (kk hz))
/-- the builder's row is put into it -/
def pt49 (Y : Sm) (i k2 i2 : Nat) : Sm := (Y.1, ug (ug Y.2 (10000 + 4 * i) k2) (10001 + 4 * i) i2)
def pt50 (Y : Sm) (i k2 i2 : Nat) : Sm := (Y.1, ug (ug Y.2 (10002 + 4 * i) k2) (10003 + 4 * i) i2)
theorem cF_big {g : Nat → Nat} {a b v w : Nat} (h : 10000 ≤ a) (h2 : 10000 ≤ b) : cF (ug (ug g a v) b w) = cF g := by
  funext k
  unfold cF
  by_cases hk : 7001 ≤ k
  · rw [Nat.ble_eq_true_of_le hk, Bool.or_true]
    rfl
  · rw [ug_ne (by omega), ug_ne (by omega)]
theorem sr_pt49 {g : Nat → Nat} {i k2 i2 : Nat} (k' i' j' : Nat) (hi : i' < cF g k') (hne : ¬ (k' = 49 ∧ i' = i ∧ j' = 0)) : sr (ug (ug g (10000 + 4 * i) k2) (10001 + 4 * i) i2) k' i' j' = sr g k' i' j' := by
  refine sr_cg (fun _ => ?_) (fun _ => ?_) (fun h => ?_) (fun h => ?_) (fun _ => ?_)
  · unfold sr0; rw [ug_ne (by omega), ug_ne (by omega), ug_ne (by omega), ug_ne (by omega)]
  · unfold sr3; rw [ug_ne (by omega), ug_ne (by omega)]
  · subst h
    rw [cF_47 (by decide)] at hi
    have hi : i' < 11 := hi
    unfold sr21; rw [ug_ne (by omega), ug_ne (by omega)]
  · subst h
    unfold sr49
    by_cases hj : j' = 0
    · have : i' ≠ i := fun e => hne ⟨rfl, e, hj⟩
      rw [ug_ne (by omega : 10000 + 4 * i' ≠ 10001 + 4 * i), ug_ne (by omega : 10000 + 4 * i' ≠ 10000 + 4 * i), ug_ne (by omega : 10001 + 4 * i' ≠ 10001 + 4 * i), ug_ne (by omega : 10001 + 4 * i' ≠ 10000 + 4 * i)]
    · rw [beq_ne hj]
      rfl
  · unfold sr50; rw [ug_ne (by omega : 10002 + 4 * i' ≠ 10001 + 4 * i), ug_ne (by omega : 10002 + 4 * i' ≠ 10000 + 4 * i), ug_ne (by omega : 10003 + 4 * i' ≠ 10001 + 4 * i), ug_ne (by omega : 10003 + 4 * i' ≠ 10000 + 4 * i)]
theorem sr_pt50 {g : Nat → Nat} {i k2 i2 : Nat} (k' i' j' : Nat) (hi : i' < cF g k') (hne : ¬ (k' = 50 ∧ i' = i ∧ j' = 0)) : sr (ug (ug g (10002 + 4 * i) k2) (10003 + 4 * i) i2) k' i' j' = sr g k' i' j' := by
  refine sr_cg (fun _ => ?_) (fun _ => ?_) (fun h => ?_) (fun _ => ?_) (fun h => ?_)
  · unfold sr0; rw [ug_ne (by omega), ug_ne (by omega), ug_ne (by omega), ug_ne (by omega)]
  · unfold sr3; rw [ug_ne (by omega), ug_ne (by omega)]
  · subst h
    rw [cF_47 (by decide)] at hi
    have hi : i' < 11 := hi
    unfold sr21; rw [ug_ne (by omega), ug_ne (by omega)]
  · unfold sr49; rw [ug_ne (by omega : 10000 + 4 * i' ≠ 10003 + 4 * i), ug_ne (by omega : 10000 + 4 * i' ≠ 10002 + 4 * i), ug_ne (by omega : 10001 + 4 * i' ≠ 10003 + 4 * i), ug_ne (by omega : 10001 + 4 * i' ≠ 10002 + 4 * i)]
  · subst h
    unfold sr50
    by_cases hj : j' = 0
    · have : i' ≠ i := fun e => hne ⟨rfl, e, hj⟩
      rw [ug_ne (by omega : 10002 + 4 * i' ≠ 10003 + 4 * i), ug_ne (by omega : 10002 + 4 * i' ≠ 10002 + 4 * i), ug_ne (by omega : 10003 + 4 * i' ≠ 10003 + 4 * i), ug_ne (by omega : 10003 + 4 * i' ≠ 10002 + 4 * i)]
    · rw [beq_ne hj]
      rfl
theorem sr_at49 {Y : Sm} {i k2 i2 : Nat} (hk : k2 ≠ 0) : sr (pt49 Y i k2 i2).2 49 i 0 = some (k2, i2) := by
  show sr49 (ug (ug Y.2 (10000 + 4 * i) k2) (10001 + 4 * i) i2) i 0 = some (k2, i2)
  unfold sr49
  rw [ug_ne (by omega : 10000 + 4 * i ≠ 10001 + 4 * i), ug_at, ug_at, beq_ne hk]
  rfl
theorem sr_at50 {Y : Sm} {i k2 i2 : Nat} (hk : k2 ≠ 0) : sr (pt50 Y i k2 i2).2 50 i 0 = some (k2, i2) := by
  show sr50 (ug (ug Y.2 (10002 + 4 * i) k2) (10003 + 4 * i) i2) i 0 = some (k2, i2)
  unfold sr50
  rw [ug_ne (by omega : 10002 + 4 * i ≠ 10003 + 4 * i), ug_at, ug_at, beq_ne hk]
  rfl
theorem m_pt49 (K : ∀ p, chk y p = true) {v9 : Int32} {a np i k2 i2 : Nat} (ht : tb y pc = (51, v9, a, 0, 11, np)) (hk : k2 ≠ 0) (kk : WL L y d B n np ls st (pt49 Y i k2 i2) P E) : WL L y d B n pc ls (aR k2 i2 :: aR 49 i :: st) Y P E := fun z0 X0 u hu => by
  have e9 : cF (pt49 Y i k2 i2).2 = cF Y.2 := cF_big (by omega) (by omega)
  refine v_putG (cc := cF Y.2) (q0 := (k2, i2)) K (sr (pt49 Y i k2 i2).2) ht rfl rfl (by decide) rfl rfl rfl (fun k' i' j' hi hne => sr_pt49 k' i' j' hi hne) (sr_at49 hk) (fun _ => rfl) (fun _ => rfl) (fun _ _ => ?_)
  show V y [] d B (6 * B) allw z0 X0 (qn P) (qn E) (cF Y.2, sr (pt49 Y i k2 i2).2, L, u, 6 * u) np ls st Y.1
  rw [← e9]
  exact kk z0 X0 u hu
theorem m_pt50 (K : ∀ p, chk y p = true) {v9 : Int32} {a np i k2 i2 : Nat} (ht : tb y pc = (51, v9, a, 0, 12, np)) (hini : isIni y = true) (hdecl : "java/lang/String" = RN (cid y)) (hk : k2 ≠ 0) (kk : WL L y d B n np ls st (pt50 Y i k2 i2) P E) : WL L y d B n pc ls (aR k2 i2 :: aR 50 i :: st) Y P E := fun z0 X0 u hu => by
  have e9 : cF (pt50 Y i k2 i2).2 = cF Y.2 := cF_big (by omega) (by omega)
  refine v_putGF (cc := cF Y.2) (q0 := (k2, i2)) K (sr (pt50 Y i k2 i2).2) ht rfl rfl (by decide) hini hdecl rfl rfl rfl (fun k' i' j' hi hne => sr_pt50 k' i' j' hi hne) (sr_at50 hk) (fun _ => rfl) (fun _ => rfl) (fun _ _ => ?_)
  show V y [] d B (6 * B) allw z0 X0 (qn P) (qn E) (cF Y.2, sr (pt50 Y i k2 i2).2, L, u, 6 * u) np ls st Y.1
  rw [← e9]
  exact kk z0 X0 u hu
end MK
