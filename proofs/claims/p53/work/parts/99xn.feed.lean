/-! the law's feed: the text goes into the input, four bytes a word -/
theorem nI_or (a b : Nat) : nI a ||| nI b = nI (a ||| b) := by
  refine Int32.toBitVec_inj.mp ?_
  rw [Int32.toBitVec_or]
  show BitVec.ofNat 32 a ||| BitVec.ofNat 32 b = BitVec.ofNat 32 (a ||| b)
  rw [BitVec.ofNat_or]
theorem nI_sl (a : Nat) : ∀ m, m < 4 → nI a <<< (nI (24 - 8 * m) &&& 31) = nI (a <<< (24 - 8 * m)) := by
  intro m hm
  refine Int32.toBitVec_inj.mp ?_
  rw [Int32.toBitVec_shiftLeft]
  have e : ((nI (24 - 8 * m) &&& 31).toBitVec.smod 32) = BitVec.ofNat 32 (24 - 8 * m) := by
    match m, hm with
    | 0, _ => decide
    | 1, _ => decide
    | 2, _ => decide
    | 3, _ => decide
  rw [e]
  show BitVec.ofNat 32 a <<< BitVec.ofNat 32 (24 - 8 * m) = BitVec.ofNat 32 (a <<< (24 - 8 * m))
  apply BitVec.eq_of_toNat_eq
  simp only [BitVec.toNat_shiftLeft, BitVec.toNat_ofNat, BitVec.shiftLeft_eq', Nat.shiftLeft_eq]
  rw [Nat.mod_eq_of_lt (by omega : 24 - 8 * m < 2 ^ 32), Nat.mod_mul_mod]
theorem nI_sr {a : Nat} (ha : a < 2 ^ 31) : ∀ m, m < 4 → nI a >>> (nI (24 - 8 * m) &&& 31) = nI (a >>> (24 - 8 * m)) := by
  intro m hm
  refine Int32.toBitVec_inj.mp ?_
  rw [Int32.toBitVec_shiftRight]
  have e : ((nI (24 - 8 * m) &&& 31).toBitVec.smod 32) = BitVec.ofNat 32 (24 - 8 * m) := by
    match m, hm with
    | 0, _ => decide
    | 1, _ => decide
    | 2, _ => decide
    | 3, _ => decide
  rw [e]
  have hmsb : (BitVec.ofNat 32 a).msb = false := by
    rw [BitVec.msb_eq_decide, BitVec.toNat_ofNat, Nat.mod_eq_of_lt (by omega)]
    exact decide_eq_false (by omega)
  show (BitVec.ofNat 32 a).sshiftRight' (BitVec.ofNat 32 (24 - 8 * m)) = BitVec.ofNat 32 (a >>> (24 - 8 * m))
  rw [BitVec.sshiftRight', BitVec.sshiftRight_eq_of_msb_false hmsb]
  apply BitVec.eq_of_toNat_eq
  have hle : a >>> (24 - 8 * m) ≤ a := by rw [Nat.shiftRight_eq_div_pow]; exact Nat.div_le_self _ _
  simp only [BitVec.toNat_ushiftRight, BitVec.toNat_ofNat]
  rw [Nat.mod_eq_of_lt (by omega : 24 - 8 * m < 2 ^ 32), Nat.mod_eq_of_lt (by omega : a < 2 ^ 32), Nat.mod_eq_of_lt (by omega : a >>> (24 - 8 * m) < 2 ^ 32)]
theorem nI_b8 {v : Nat} (h : v % 256 < 128) : (nI v).toInt8.toInt32 = nI (v % 256) := by
  have e : (nI v).toInt8 = (nI (v % 256)).toInt8 := by
    refine Int8.toBitVec_inj.mp ?_
    rw [Int32.toBitVec_toInt8, Int32.toBitVec_toInt8, BitVec.signExtend_eq_setWidth_of_le _ (by omega), BitVec.signExtend_eq_setWidth_of_le _ (by omega)]
    show (BitVec.ofNat 32 v).setWidth 8 = (BitVec.ofNat 32 (v % 256)).setWidth 8
    apply BitVec.eq_of_toNat_eq
    simp only [BitVec.toNat_setWidth, BitVec.toNat_ofNat]
    omega
  rw [e]
  exact (by127 _ h).1
theorem by8_n {W j c : Nat} (hW : W < 2 ^ 31) (hj : j < 4) (hc : c < 128) (h : (W >>> (24 - 8 * j)) % 256 = c) : by8 (nI W) j = nI c := by
  unfold by8
  rw [nI_sr hW j hj, nI_b8 (by rw [h]; exact hc), h]
  exact (by127 c hc).1
theorem or_ad {a b s : Nat} (h : b < 2 ^ s) : (a <<< s) ||| b = a * 2 ^ s + b := by rw [← Nat.shiftLeft_add_eq_or_of_lt h, Nat.shiftLeft_eq]
theorem w4 {c0 c1 c2 c3 : Nat} (h1 : c1 < 128) (h2 : c2 < 128) (h3 : c3 < 128) : (((0 ||| c0 <<< 24) ||| c1 <<< 16) ||| c2 <<< 8) ||| c3 <<< 0 = c0 * 16777216 + c1 * 65536 + c2 * 256 + c3 := by
  rw [Nat.zero_or, or_ad (s := 24) (by rw [Nat.shiftLeft_eq]; omega), show c0 * 2 ^ 24 + c1 <<< 16 = (c0 * 256 + c1) <<< 16 by rw [Nat.shiftLeft_eq, Nat.shiftLeft_eq]; omega, or_ad (s := 16) (by rw [Nat.shiftLeft_eq]; omega), show (c0 * 256 + c1) * 2 ^ 16 + c2 <<< 8 = (c0 * 65536 + c1 * 256 + c2) <<< 8 by rw [Nat.shiftLeft_eq, Nat.shiftLeft_eq]; omega, or_ad (s := 8) (by rw [Nat.shiftLeft_eq]; omega), Nat.shiftLeft_eq]
  omega
/-- word j behind k chars -/
def pw (A : Nat → Nat) : Nat → Nat → Nat
  | 0, _ => 0
  | k + 1, j => if j = k / 4 then pw A k j ||| A k <<< (24 - 8 * (k % 4)) else pw A k j
theorem pw_lt {A : Nat → Nat} (h : ∀ k, A k < 128) : ∀ k j, pw A k j < 2 ^ 31
  | 0, _ => by
    show 0 < 2 ^ 31
    decide
  | k + 1, j => by
    have h1 := pw_lt h k j
    have h2 := h k
    show (if j = k / 4 then pw A k j ||| A k <<< (24 - 8 * (k % 4)) else pw A k j) < 2 ^ 31
    split
    · refine Nat.or_lt_two_pow h1 ?_
      rw [Nat.shiftLeft_eq]
      have h3 : 2 ^ (24 - 8 * (k % 4)) ≤ 2 ^ 24 := Nat.pow_le_pow_right (by omega) (by omega)
      have h4 : A k * 2 ^ (24 - 8 * (k % 4)) ≤ A k * 2 ^ 24 := Nat.mul_le_mul_left _ h3
      omega
    · exact h1
theorem pw_20 {A : Nat → Nat} : ∀ j, j < 5 → pw A 20 j = (((0 ||| A (4 * j) <<< 24) ||| A (4 * j + 1) <<< 16) ||| A (4 * j + 2) <<< 8) ||| A (4 * j + 3) <<< 0
  | 0, _ => rfl
  | 1, _ => rfl
  | 2, _ => rfl
  | 3, _ => rfl
  | 4, _ => rfl
theorem pw_by {A : Nat → Nat} (h : ∀ k, A k < 128) {q : Nat} (hq : q < 20) : by8 (nI (pw A 20 (q / 4))) (q % 4) = nI (A q) := by
  refine by8_n (pw_lt h _ _) (Nat.mod_lt _ (by omega)) (h q) ?_
  have hj : q / 4 < 5 := by omega
  rw [pw_20 _ hj, w4 (h _) (h _) (h _), Nat.shiftRight_eq_div_pow]
  have a0 := h (4 * (q / 4))
  have a1 := h (4 * (q / 4) + 1)
  have a2 := h (4 * (q / 4) + 2)
  have a3 := h (4 * (q / 4) + 3)
  have hm : q % 4 = 0 ∨ q % 4 = 1 ∨ q % 4 = 2 ∨ q % 4 = 3 := by omega
  rcases hm with e | e | e | e
  · rw [e, show q = 4 * (q / 4) by omega]
    simp only [Nat.mul_div_cancel_left _ (show 0 < 4 by omega)]
    generalize A (4 * (q / 4)) = x0 at *
    generalize A (4 * (q / 4) + 1) = x1 at *
    generalize A (4 * (q / 4) + 2) = x2 at *
    generalize A (4 * (q / 4) + 3) = x3 at *
    omega
  · rw [e]
    have e2 : A q = A (4 * (q / 4) + 1) := congrArg A (by omega)
    rw [e2]
    generalize A (4 * (q / 4)) = x0 at *
    generalize A (4 * (q / 4) + 1) = x1 at *
    generalize A (4 * (q / 4) + 2) = x2 at *
    generalize A (4 * (q / 4) + 3) = x3 at *
    omega
  · rw [e]
    have e2 : A q = A (4 * (q / 4) + 2) := congrArg A (by omega)
    rw [e2]
    generalize A (4 * (q / 4)) = x0 at *
    generalize A (4 * (q / 4) + 1) = x1 at *
    generalize A (4 * (q / 4) + 2) = x2 at *
    generalize A (4 * (q / 4) + 3) = x3 at *
    omega
  · rw [e]
    have e2 : A q = A (4 * (q / 4) + 3) := congrArg A (by omega)
    rw [e2]
    generalize A (4 * (q / 4)) = x0 at *
    generalize A (4 * (q / 4) + 1) = x1 at *
    generalize A (4 * (q / 4) + 2) = x2 at *
    generalize A (4 * (q / 4) + 3) = x3 at *
    omega
/-- the class's feed: 20 bytes more -/
theorem c_104 {Y : Sm} {n : Nat} {A : Nat → Int32} (h : gI Y.1 1 0 1 = nI n) (hn : n ≤ 480) : fn_104 (A 0) (A 1) (A 2) (A 3) (A 4) Y = some (nI (n + 20), sI (sF Y 2 0 (fedF (gI Y.1 2 0) n 20 A)) 1 0 1 (nI (n + 20))) := by
  have e0 : Y = sI (sF Y 2 0 (fedF (gI Y.1 2 0) n (4 * 0) A)) 1 0 1 (nI (n + 4 * 0)) := by
    have e : fedF (gI Y.1 2 0) n (4 * 0) A = gI Y.1 2 0 := funext fun q => if_neg (by omega)
    rw [e, sF_self, Nat.mul_zero, Nat.add_zero, ← h, sI_sF]
    have e2 : upd (gI Y.1 1 0) 1 (gI Y.1 1 0 1) = gI Y.1 1 0 := by
      funext q
      by_cases g : q = 1
      · rw [g, upd_at]
      · rw [upd_ne g]
    rw [e2, sF_self]
  have k1 := c_17s (Y := Y) (g := gI Y.1 2 0) (L := n) (i := 0) (A := A) _ rfl (by omega)
  have k2 := c_17s (Y := Y) (g := gI Y.1 2 0) (L := n) (i := 1) (A := A) _ rfl (by omega)
  have k3 := c_17s (Y := Y) (g := gI Y.1 2 0) (L := n) (i := 2) (A := A) _ rfl (by omega)
  have k4 := c_17s (Y := Y) (g := gI Y.1 2 0) (L := n) (i := 3) (A := A) _ rfl (by omega)
  have k5 := c_17s (Y := Y) (g := gI Y.1 2 0) (L := n) (i := 4) (A := A) _ rfl (by omega)
  rw [← e0] at k1
  unfold fn_104
  rw [h, if_pos (nI_le hn (by omega)), bd_e k1, bd_e k2, bd_e k3, bd_e k4, bd_e k5]
  show some (gI (sI _ 1 0 1 (nI (n + 4 * (4 + 1)))).1 1 0 1, _) = _
  rw [gI_sIv, upd_at]
