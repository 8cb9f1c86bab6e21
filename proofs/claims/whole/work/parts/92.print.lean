/-! printOrder -/
theorem rv_dig {b k : Nat} : ∀ {l : List Nat} (i : Nat), (∀ a ∈ l, a + k < b) → rv b k l / b ^ i % b = if i < l.length then l.getD i 0 + k else 0 := by
  intro l
  induction l with
  | nil =>
    intro i _
    show 0 / b ^ i % b = 0
    rw [Nat.zero_div, Nat.zero_mod]
  | cons a l ih =>
    intro i h
    have h1 := h a (List.mem_cons_self ..)
    have e : rv b k (a :: l) / b = rv b k l := by
      show (rv b k l * b + (a + k)) / b = _
      rw [Nat.add_comm, Nat.add_mul_div_right _ _ (show 0 < b by omega), Nat.div_eq_of_lt h1, Nat.zero_add]
    cases i with
    | zero =>
      show (rv b k l * b + (a + k)) / 1 % b = _
      rw [Nat.div_one, Nat.add_comm, Nat.add_mul_mod_self_right, Nat.mod_eq_of_lt h1, if_pos (show 0 < (a :: l).length from Nat.succ_pos _)]
      rfl
    | succ i =>
      rw [Nat.pow_succ, Nat.mul_comm, ← Nat.div_div_eq_div_mul, e, ih i (fun x hx => h x (List.mem_cons_of_mem _ hx))]
      by_cases c : i < l.length
      · rw [if_pos c, if_pos (show i + 1 < (a :: l).length from Nat.succ_lt_succ c)]
        rfl
      · rw [if_neg c, if_neg (show ¬ i + 1 < (a :: l).length from fun q => c (Nat.lt_of_succ_lt_succ q))]
theorem nL_I (n : Nat) : (nL n).toInt32 = nI n := by
  show (Int64.ofNat n).toInt32 = Int32.ofNat n
  exact Int64.toInt32_ofNat
theorem nL_and (n : Nat) : nL n &&& nL 31 = nL (n % 32) := by
  rw [← Int64.toBitVec_inj, Int64.toBitVec_and]
  apply BitVec.eq_of_toNat_eq
  have q : ∀ n, (nL n).toBitVec = BitVec.ofNat 64 n := fun n => rfl
  rw [q, q, q, BitVec.toNat_and, BitVec.toNat_ofNat, BitVec.toNat_ofNat, BitVec.toNat_ofNat, Nat.mod_eq_of_lt (a := 31) (by omega), show 31 = 2 ^ 5 - 1 from rfl, Nat.and_two_pow_sub_one_eq_mod, show 2 ^ 5 = 32 from rfl, Nat.mod_mod_of_dvd _ (by decide : 32 ∣ 2 ^ 64), Nat.mod_eq_of_lt (a := n % 32) (by omega)]
theorem nI_and (n : Nat) : nI n &&& nI 255 = nI (n % 256) := by
  rw [← Int32.toBitVec_inj, Int32.toBitVec_and]
  apply BitVec.eq_of_toNat_eq
  have q : ∀ n, (nI n).toBitVec = BitVec.ofNat 32 n := fun n => rfl
  rw [q, q, q, BitVec.toNat_and, BitVec.toNat_ofNat, BitVec.toNat_ofNat, BitVec.toNat_ofNat, Nat.mod_eq_of_lt (a := 255) (by omega), show 255 = 2 ^ 8 - 1 from rfl, Nat.and_two_pow_sub_one_eq_mod, show 2 ^ 8 = 256 from rfl, Nat.mod_mod_of_dvd _ (by decide : 256 ∣ 2 ^ 32), Nat.mod_eq_of_lt (a := n % 256) (by omega)]
theorem nL_shr {x s : Nat} {v : Int64} (hx : x < 2 ^ 63) (hv : v.toBitVec.smod 64 = BitVec.ofNat 64 s) (hs : s < 64) : nL x >>> v = nL (x / 2 ^ s) := by
  rw [← Int64.toBitVec_inj, Int64.toBitVec_shiftRight, hv]
  have q : ∀ n, (nL n).toBitVec = BitVec.ofNat 64 n := fun n => rfl
  rw [q, q, BitVec.sshiftRight_eq', BitVec.toNat_ofNat, Nat.mod_eq_of_lt (a := s) (by omega), BitVec.sshiftRight_eq_of_msb_false]
  · apply BitVec.eq_of_toNat_eq
    have hd : x / 2 ^ s ≤ x := Nat.div_le_self _ _
    rw [BitVec.toNat_ushiftRight, BitVec.toNat_ofNat, BitVec.toNat_ofNat, Nat.mod_eq_of_lt (a := x) (by omega), Nat.shiftRight_eq_div_pow, Nat.mod_eq_of_lt (by omega)]
  · rw [BitVec.msb_eq_false_iff_two_mul_lt, BitVec.toNat_ofNat, Nat.mod_eq_of_lt (by omega)]
    omega
theorem sh8s : ∀ i, i < 6 → ((nI (8 * i)).toInt64 &&& 63).toBitVec.smod 64 = BitVec.ofNat 64 (8 * i) := by decide
theorem sh5 : ((nI 5).toInt64 &&& 63).toBitVec.smod 64 = BitVec.ofNat 64 5 := by decide
theorem n256_dig {w : List Nat} (h : Wd w) (i : Nat) : n256 w / 2 ^ (8 * i) % 256 = if i < w.length then w.getD (w.length - 1 - i) 0 + 96 else 0 := by
  unfold n256
  rw [rv_eq, Nat.pow_mul, show 2 ^ 8 = 256 from rfl, rv_dig i (fun a ha => by have := h.2.2 a (List.mem_reverse.mp ha); omega), List.length_reverse]
  by_cases c : i < w.length
  · rw [if_pos c, if_pos c]
    congr 1
    rw [List.getD_eq_getElem?_getD, List.getD_eq_getElem?_getD, List.getElem?_reverse c]
  · rw [if_neg c, if_neg c]
/-- what was printed -/
def OC (Y X : Sm) (t : List Nat) : Prop := (X.2 = Y.2 ∧ (∀ k i, k ≠ 0 → k ≠ 20 → gI X.1 k i = gI Y.1 k i ∧ gJ X.1 k i = gJ Y.1 k i) ∧ (∀ x, x ≠ 3 → gI X.1 0 0 x = gI Y.1 0 0 x) ∧ ∀ i, gJ X.1 0 i = gJ Y.1 0 i ∧ gJ X.1 20 i = gJ Y.1 20 i) ∧ gI X.1 0 0 3 = nI t.length ∧ ∀ j, j < t.length → gI X.1 20 0 j = nI (t.getD j 0)
def OM (Y X : Sm) (t : List Nat) : Prop := (X.2 = Y.2 ∧ (∀ k i, k ≠ 48 → k ≠ 65 → gI X.1 k i = gI Y.1 k i ∧ gJ X.1 k i = gJ Y.1 k i) ∧ (∀ x, x ≠ 41 → gI X.1 48 0 x = gI Y.1 48 0 x) ∧ ∀ i, gJ X.1 48 i = gJ Y.1 48 i ∧ gJ X.1 65 i = gJ Y.1 65 i) ∧ gI X.1 48 0 41 = nI t.length ∧ ∀ j, j < t.length → gI X.1 65 0 j = nI (t.getD j 0)
theorem i8_lo : ∀ n, n < 128 → ((nI n).toInt8.toInt32).toInt8.toInt32 = nI n := by decide +kernel
theorem gD_app {t : List Nat} {n j : Nat} (h : j < (t ++ [n]).length) : (t ++ [n]).getD j 0 = if j = t.length then n else t.getD j 0 := by
  rw [List.length_append] at h
  have h : j < t.length + 1 := h
  rw [List.getD_eq_getElem?_getD, List.getD_eq_getElem?_getD]
  by_cases c : j = t.length
  · rw [if_pos c, c, List.getElem?_append_right (Nat.le_refl _), Nat.sub_self]
    rfl
  · rw [if_neg c, List.getElem?_append_left (by omega)]
theorem c_161 {Y X : Sm} {t : List Nat} {n : Nat} (h : OC Y X t) (ht : t.length < 64) (hn : n < 128) : ∃ Z, fn_161 (nI n) X = some ((), Z) ∧ OC Y Z (t ++ [n]) := by
  obtain ⟨⟨f1, f2, f3, f4⟩, h1, h2⟩ := h
  refine ⟨sI (sI X 20 0 t.length (nI n)) 0 0 3 (nI (t.length + 1)), ?_, ⟨f1, fun k i hk hk2 => ⟨?_, (f2 k i hk hk2).2⟩, fun x hx => ?_, fun i => f4 i⟩, ?_, fun j hj => ?_⟩
  · unfold fn_161
    rw [h1, iteI_le_f ht (by omega), ck_in ht (by omega), ix_nI (by omega), wr_t, i8_lo n hn, gI_sIk (by omega), h1, wr_t, nI_add]
  · rw [gI_sIk hk, gI_sIk hk2]; exact (f2 k i hk hk2).1
  · rw [gI_sIv, upd_ne hx, gI_sIk (by omega)]; exact f3 x hx
  · rw [gI_sIv, upd_at, List.length_append]; rfl
  · rw [gI_sIk (by omega), gI_sIv, gD_app hj]
    rw [List.length_append] at hj
    have hj : j < t.length + 1 := hj
    by_cases c : j = t.length
    · rw [if_pos c, c, upd_at]
    · rw [if_neg c, upd_ne c]; exact h2 j (by omega)
theorem r_296 {Y X : Sm} {t : List Nat} {n : Nat} (h : OM Y X t) (ht : t.length < 60) (hn : n < 128) : ∃ Z, fn_296 (nI n) X = some ((), Z) ∧ OM Y Z (t ++ [n]) := by
  obtain ⟨⟨f1, f2, f3, f4⟩, h1, h2⟩ := h
  refine ⟨sI (sI X 65 0 t.length (nI n)) 48 0 41 (nI (t.length + 1)), ?_, ⟨f1, fun k i hk hk2 => ⟨?_, (f2 k i hk hk2).2⟩, fun x hx => ?_, fun i => f4 i⟩, ?_, fun j hj => ?_⟩
  · unfold fn_296
    rw [h1, ck_in ht (by omega), ix_nI (by omega), wr_t, i8_lo n hn, gI_sIk (by omega), h1, wr_t, nI_add]
  · rw [gI_sIk hk, gI_sIk hk2]; exact (f2 k i hk hk2).1
  · rw [gI_sIv, upd_ne hx, gI_sIk (by omega)]; exact f3 x hx
  · rw [gI_sIv, upd_at, List.length_append]; rfl
  · rw [gI_sIk (by omega), gI_sIv, gD_app hj]
    rw [List.length_append] at hj
    have hj : j < t.length + 1 := hj
    by_cases c : j = t.length
    · rw [if_pos c, c, upd_at]
    · rw [if_neg c, upd_ne c]; exact h2 j (by omega)
def lw (w : List Nat) : List Nat := w.map (fun a => a + 96)
theorem c_160 {Y X : Sm} {t w : List Nat} (h : OC Y X t) (hw : Wd w) (ht : t.length + 6 ≤ 64) : ∃ Z, fn_160 (nL (n256 w)) X = some ((), Z) ∧ OC Y Z (t ++ lw w) := by
  have hb := n256_lt hw
  have key := Ok_lp (F := fun s => fn_160_L3 (nL (n256 w)) s.1 s.2) (Q := fun x => ∃ Z, x = ((), Z) ∧ OC Y Z (t ++ lw w)) (fun j s => s.1 = (if j = 6 then (-8 : Int32) else nI (8 * (5 - j))) ∧ OC Y s.2 (t ++ lw (w.take (w.length - (6 - j))))) 6 (N := FU) (FU_lt (by omega)) (s := (nI 40, X)) ?_ ?_ ?_
  · obtain ⟨x, ex, Z, rfl, hZ⟩ := key
    exact ⟨Z, ex, hZ⟩
  · rintro j ⟨l3, X1⟩ hj ⟨E, hX⟩
    have E : l3 = _ := E
    subst E
    have hX : OC Y X1 (t ++ lw (w.take (w.length - (6 - j)))) := hX
    have e8 : nI (8 * (5 - j)) + (-8 : Int32) = (if j + 1 = 6 then (-8 : Int32) else nI (8 * (5 - (j + 1)))) := (by decide : ∀ j, j < 6 → nI (8 * (5 - j)) + (-8 : Int32) = (if j + 1 = 6 then (-8 : Int32) else nI (8 * (5 - (j + 1))))) j hj
    have ed : ((nL (n256 w) >>> ((nI (8 * (5 - j))).toInt64 &&& 63)).toInt32) &&& nI 255 = nI (if 5 - j < w.length then w.getD (w.length - 1 - (5 - j)) 0 + 96 else 0) := by
      rw [nL_shr (by omega) (sh8s (5 - j) (by omega)) (by omega), nL_I, nI_and, n256_dig hw]
    simp only [fn_160_L3]
    rw [if_neg (show ¬ j = 6 by omega), if_neg (p_nlt (by omega)), ed, e8]
    by_cases c : 5 - j < w.length
    · have hm : w.getD (w.length - 1 - (5 - j)) 0 ∈ w := by
        rw [List.getD_eq_getElem?_getD, List.getElem?_eq_getElem (by omega)]
        exact List.getElem_mem _
      have hr := hw.2.2 _ hm
      have et : lw (w.take (w.length - (6 - (j + 1)))) = lw (w.take (w.length - (6 - j))) ++ [w.getD (w.length - 1 - (5 - j)) 0 + 96] := by
        have e1 : w.length - (6 - (j + 1)) = (w.length - (6 - j)) + 1 := by omega
        have e2 : w.length - 1 - (5 - j) = w.length - (6 - j) := by omega
        unfold lw
        rw [e1, e2, List.take_succ, List.map_append, List.getD_eq_getElem?_getD, List.getElem?_eq_getElem (by omega)]
        rfl
      obtain ⟨Z, eZ, hZ⟩ := c_161 (n := w.getD (w.length - 1 - (5 - j)) 0 + 96) hX (by
        rw [List.length_append]
        unfold lw
        rw [List.length_map, List.length_take]
        have := hw.2.1
        omega) (by omega)
      refine ⟨.inl ((if j + 1 = 6 then (-8 : Int32) else nI (8 * (5 - (j + 1)))), Z), ?_, rfl, ?_⟩
      · rw [if_pos c, if_neg (fun q => by have := (nI_eq (by omega) (by omega)).mp q; omega), eZ, bd_t]
      · show OC Y Z (t ++ lw (w.take (w.length - (6 - (j + 1)))))
        rw [et, ← List.append_assoc]
        exact hZ
    · refine ⟨.inl ((if j + 1 = 6 then (-8 : Int32) else nI (8 * (5 - (j + 1)))), X1), ?_, rfl, ?_⟩
      · rw [if_neg c, if_pos rfl]
      · show OC Y X1 (t ++ lw (w.take (w.length - (6 - (j + 1)))))
        rw [show w.length - (6 - (j + 1)) = w.length - (6 - j) by omega]
        exact hX
  · rintro ⟨l3, X1⟩ ⟨E, hX⟩
    have E : l3 = _ := E
    subst E
    have hX : OC Y X1 (t ++ lw (w.take (w.length - (6 - 6)))) := hX
    refine ⟨.inr ((), X1), ?_, X1, rfl, ?_⟩
    · simp only [fn_160_L3]
      rw [if_pos True.intro, if_pos (by decide)]
    · rw [show w.length - (6 - 6) = w.length by omega, List.take_length] at hX
      exact hX
  · refine ⟨rfl, ?_⟩
    show OC Y X (t ++ lw (w.take (w.length - 6)))
    have := hw.2.1
    rw [show w.length - 6 = 0 by omega, List.take_zero]
    unfold lw
    rw [List.map_nil, List.append_nil]
    exact h
theorem r_297 {Y : Sm} : ∀ (l : List Nat) (a n : Nat) {X : Sm} {t : List Nat}, (∀ x ∈ a :: l, 1 ≤ x ∧ x ≤ 26) → l.length < n → l.length ≤ 5 → OM Y X t → t.length + l.length < 60 → ∃ Z, fn_297 n (nL (rv 32 0 (a :: l))) X = some ((), Z) ∧ OM Y Z (t ++ lw (a :: l).reverse) := by
  intro l
  induction l with
  | nil =>
    intro a n X t h hn _ hX ht
    obtain ⟨n, rfl⟩ : ∃ m, n = m + 1 := ⟨n - 1, by have : 0 < n := hn; omega⟩
    have ha := h a (List.mem_cons_self ..)
    obtain ⟨Z, eZ, hZ⟩ := r_296 (n := a + 96) hX (by have : t.length + 0 < 60 := ht; omega) (by omega)
    refine ⟨Z, ?_, hZ⟩
    have er : rv 32 0 [a] = a := by show 0 * 32 + (a + 0) = a; omega
    have le : lg_cmp (nL a) (nI 31).toInt64 ≤ nI 0 := by
      rw [← Int32.not_lt, lg_gt0, nI_nL (by omega), Int64.not_lt, Int64.le_iff_toInt_le, Int64.toInt_ofNat_of_lt (by omega), Int64.toInt_ofNat_of_lt (by omega)]
      omega
    rw [er]
    unfold fn_297
    rw [if_pos le, nI_nL (by omega), nL_and, nL_I, Nat.mod_eq_of_lt (by omega), nI_add, eZ, bd_t]
  | cons b l ih =>
    intro a n X t h hn hl hX ht
    have hn : l.length + 1 < n := hn
    have hl : l.length + 1 ≤ 5 := hl
    have ht : t.length + (l.length + 1) < 60 := ht
    obtain ⟨n, rfl⟩ : ∃ m, n = m + 1 := ⟨n - 1, by omega⟩
    have ha := h a (List.mem_cons_self ..)
    have hb := h b (List.mem_cons_of_mem _ (List.mem_cons_self ..))
    have er : rv 32 0 (a :: b :: l) = rv 32 0 (b :: l) * 32 + a := by show rv 32 0 (b :: l) * 32 + (a + 0) = _; omega
    have e1 : 1 ≤ rv 32 0 (b :: l) := by show 1 ≤ rv 32 0 l * 32 + (b + 0); omega
    have lt : rv 32 0 (b :: l) < 2 ^ 25 := by
      refine Nat.lt_of_lt_of_le (rv_lt (fun x hx => by have := h x (List.mem_cons_of_mem _ hx); omega)) ?_
      exact Nat.le_trans (Nat.pow_le_pow_right (show 0 < 32 by omega) (show (b :: l).length ≤ 5 from hl)) (by decide)
    have gt : ¬ lg_cmp (nL (rv 32 0 (a :: b :: l))) (nI 31).toInt64 ≤ nI 0 := by
      rw [Int32.not_le, lg_gt0, nI_nL (by omega), Int64.lt_iff_toInt_lt, Int64.toInt_ofNat_of_lt (by omega), Int64.toInt_ofNat_of_lt (by omega)]
      omega
    obtain ⟨Z1, eZ1, hZ1⟩ := ih b n (fun x hx => h x (List.mem_cons_of_mem _ hx)) (by omega) (by omega) hX (by omega)
    obtain ⟨Z, eZ, hZ⟩ := r_296 (n := a + 96) hZ1 (by
      rw [List.length_append]
      unfold lw
      rw [List.length_map, List.length_reverse]
      show t.length + (l.length + 1) < 60
      omega) (by omega)
    refine ⟨Z, ?_, ?_⟩
    · unfold fn_297
      rw [if_neg gt, nL_shr (by omega) sh5 (by omega), show rv 32 0 (a :: b :: l) / 2 ^ 5 = rv 32 0 (b :: l) by omega, eZ1, bd_t, nI_nL (by omega), nL_and, nL_I, show rv 32 0 (a :: b :: l) % 32 = a by omega, nI_add, eZ, bd_t]
    · have : lw (a :: b :: l).reverse = lw (b :: l).reverse ++ [a + 96] := by
        unfold lw
        rw [List.reverse_cons, List.map_append]
        rfl
      rw [this, ← List.append_assoc]
      exact hZ
theorem r_nm {Y X : Sm} {t w : List Nat} (h : OM Y X t) (hw : Wd w) (ht : t.length + 6 ≤ 60) : ∃ Z, fn_297 8 (nL (n32 w)) X = some ((), Z) ∧ OM Y Z (t ++ lw w) := by
  have e : n32 w = rv 32 0 w.reverse := rv_eq 32 0 w
  have hl : w.reverse.length = w.length := List.length_reverse ..
  have hm : ∀ x ∈ w.reverse, 1 ≤ x ∧ x ≤ 26 := fun x hx => hw.2.2 x (List.mem_reverse.mp hx)
  rw [e]
  have h1 := hw.1
  have h2 := hw.2.1
  match hr : w.reverse with
  | [] => rw [hr] at hl; have hl : 0 = w.length := hl; omega
  | a :: l =>
    rw [hr] at hl hm
    have hl : l.length + 1 = w.length := hl
    obtain ⟨Z, eZ, hZ⟩ := r_297 l a 8 hm (by omega) (by omega) h (by omega)
    refine ⟨Z, eZ, ?_⟩
    rw [← hr, List.reverse_reverse] at hZ
    exact hZ
