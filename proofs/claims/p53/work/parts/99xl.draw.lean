/-! the law's draws, its ballot and the name of a manner -/
theorem nI_ml (a b : Nat) : nI a * nI b = nI (a * b) := (Int32.ofNat_mul a b).symm
theorem nI_dv {a b : Nat} (ha : a < 2 ^ 31) (hb : b < 2 ^ 31) : nI a / nI b = nI (a / b) := by
  have hd : a / b ≤ a := Nat.div_le_self a b
  have hi : ((a / b : Nat) : Int) = (a : Int).tdiv (b : Int) := Int.ofNat_tdiv a b
  refine Int32.toInt_inj.mp ?_
  have key : ∀ q : Nat, q ≤ a → (q : Int).bmod (2 ^ 32) = q := fun q hq => Int.bmod_eq_of_le (by omega) (by omega)
  rw [Int32.toInt_div, nI_toInt ha, nI_toInt hb, nI_toInt (Nat.lt_of_le_of_lt hd ha), ← hi, key _ hd]
theorem nI_rm {a b : Nat} (ha : a < 2 ^ 31) (hb : b < 2 ^ 31) : nI a - nI a / nI b * nI b = nI (a % b) := by
  rw [nI_dv ha hb, nI_ml, nI_sb (Nat.div_mul_le_self a b), Nat.mod_def, Nat.mul_comm]
theorem and31 (v : Int32) : ¬ (v &&& 2147483647) < 0 := by
  rw [Int32.lt_iff_toInt_lt]
  show ¬ (v &&& 2147483647).toBitVec.toInt < (0 : Int)
  have h : ((v &&& 2147483647).toBitVec).msb = false := by
    rw [Int32.toBitVec_and, BitVec.msb_and, show ((2147483647 : Int32).toBitVec).msb = false by decide, Bool.and_false]
  rw [BitVec.msb_eq_toInt] at h
  exact of_decide_eq_false h
theorem c_180 {L k : Nat} {Y : Sm} (hL : L ≤ 3072) (hk : k < 2 ^ 31) : ML L 4 0 180 [aR 68 0, aI (nI k)] Y (fun w Z => Z = Y ∧ ∃ x, w = some (aI x)) nX := by
  refine ML_of [(0, aR 68 0), (1, aI (nI k))] ?_
  refine m_sg k180 3 (st' := [aI (nI L), aI (nI k)]) (fun _ => rfl) trivial ?_
  refine m_icmp_ge k180 rfl (fun _ => ?_) (fun h => ?_)
  · refine m_sg k180 5 (fun _ => rfl) trivial ?_
    exact m_ireturn k180 ⟨rfl, _, rfl⟩
  · have hkL : k < L := Nat.lt_of_not_le fun q => h (nI_le q hk)
    refine m_sg k180 4 (cs' := [vp_in (nI k) L]) (fun _ => rfl) (show vp_in (nI k) L from nI_in hkL (by omega)) ?_
    exact m_ireturn k180 ⟨rfl, _, rfl⟩
theorem c_181 {L k lo hi : Nat} {Y : Sm} (hL : L ≤ 3072) (hk : k < 2 ^ 31) (h : lo ≤ hi) (hh : hi ≤ 1000) : ML L 5 0 181 [aR 68 0, aI (nI k), aI (nI lo), aI (nI hi)] Y (fun w Z => Z = Y ∧ ∃ r, lo ≤ r ∧ r ≤ hi ∧ w = some (aI (nI r))) nX := by
  refine ML_of [(0, aR 68 0), (1, aI (nI k)), (2, aI (nI lo)), (3, aI (nI hi))] ?_
  refine m_sg k181 3 (fun _ => rfl) trivial ?_
  refine m_xS k181 (n := 0) (As := [aR 68 0, aI (nI k)]) (c_180 hL hk) nX_no rfl rfl (fun w Z h9 => ?_)
  obtain ⟨e9, x, rfl⟩ := h9
  cases e9
  obtain ⟨c, hc, e⟩ := nI_of (and31 x)
  have em : nI hi - nI lo + 1 = nI (hi - lo + 1) := by rw [nI_sb h, ← nI_add]; rfl
  have hm : (c % (hi - lo + 1)) < hi - lo + 1 := Nat.mod_lt _ (by omega)
  have hne : ¬ nI hi - nI lo + 1 = 0 := by rw [em]; exact nI_ne0 (by omega) (by omega)
  refine m_sg k181 9 (fun _ => rfl) hne ?_
  rw [e, em, nI_rm hc (by omega), nI_add]
  exact m_ireturn k181 ⟨rfl, _, by omega, by omega, rfl⟩
/-- the text of a manner's name -/
def mtx (m : Nat) : Nat := if m = 1 then 27 else if m = 2 then 29 else if m = 3 then 33 else 34
theorem c_184 {L m : Nat} {Y : Sm} (hm : m ≤ 3) : ML L 4 0 184 [aI (nI m)] Y (fun w Z => Z = Y ∧ w = some (aS (mtx m))) nX := by
  refine ML_of [(0, aI (nI m))] ?_
  refine m_sg k184 1 (fun _ => rfl) trivial ?_
  match m, hm with
  | 0, _ =>
    refine m_swOut k184 rfl rfl rfl (fun j hj => ?_) ?_
    · intro e
      have hj : j < 3 := hj
      have := (nI_eq (by omega) (by omega)).mp e
      omega
    · refine m_sg k184 1 (fun _ => rfl) trivial ?_
      exact m_areturn k184 ⟨rfl, rfl⟩ rfl rfl (Or.inl ⟨_, rfl⟩) rfl
  | 1, _ =>
    refine m_swAt k184 0 rfl rfl rfl rfl rfl ?_
    refine m_sg k184 1 (fun _ => rfl) trivial ?_
    exact m_areturn k184 ⟨rfl, rfl⟩ rfl rfl (Or.inl ⟨_, rfl⟩) rfl
  | 2, _ =>
    refine m_swAt k184 1 rfl rfl rfl rfl rfl ?_
    refine m_sg k184 1 (fun _ => rfl) trivial ?_
    exact m_areturn k184 ⟨rfl, rfl⟩ rfl rfl (Or.inl ⟨_, rfl⟩) rfl
  | 3, _ =>
    refine m_swAt k184 2 rfl rfl rfl rfl rfl ?_
    refine m_sg k184 1 (fun _ => rfl) trivial ?_
    exact m_areturn k184 ⟨rfl, rfl⟩ rfl rfl (Or.inl ⟨_, rfl⟩) rfl
/-- the law's ballot: turned by a, in steps of s -/
def bcd (C a s : Nat) : Nat → Nat
  | 0 => 0
  | p + 1 => 10 * bcd C a s p + (a + s * p) % C
theorem bcd_lt {C a s : Nat} (hC : 0 < C) (hC5 : C ≤ 5) : ∀ p, bcd C a s p < 10 ^ p
  | 0 => by
    show 0 < 1
    decide
  | p + 1 => by
    have h1 := bcd_lt (a := a) (s := s) hC hC5 p
    have h2 : (a + s * p) % C < C := Nat.mod_lt _ hC
    show 10 * bcd C a s p + (a + s * p) % C < 10 ^ (p + 1)
    rw [Nat.pow_succ]
    omega
theorem c_186l {L k C a s : Nat} {Y : Sm} {P : Option Av → Sm → Prop} (hC : 0 < C) (hC5 : C ≤ 5) (ha : a < C) (hs : s ≤ 5) (hP : P (some (aI (nI (bcd C a s C)))) Y) : ∀ n p, p + n = C → WL L 186 6 0 0 37 [(0, aR 68 0), (1, aI (nI k)), (2, aI (nI C)), (3, aI (nI (bcd C a s p))), (4, aI (nI a)), (5, aI (nI s)), (6, aI (nI p))] [] Y P nX
  | 0, p, hp => by
    have hpC : p = C := by omega
    subst hpC
    refine m_sg k186 2 (fun _ => rfl) trivial ?_
    refine m_icmp_ge k186 rfl (fun _ => ?_) (fun h => absurd (nI_le (Nat.le_refl _) (by omega)) h)
    refine m_sg k186 1 (fun _ => rfl) trivial ?_
    exact m_ireturn k186 hP
  | n + 1, p, hp => by
    have hb := bcd_lt (a := a) (s := s) hC hC5 p
    have hb2 : 10 ^ p ≤ 10 ^ 5 := Nat.pow_le_pow_right (by omega) (by omega)
    have hsp : s * p ≤ 5 * 5 := Nat.mul_le_mul hs (by omega)
    refine m_sg k186 2 (fun _ => rfl) trivial ?_
    refine m_icmp_ge k186 rfl (fun h => absurd h (nI_ge (by omega) (by omega))) (fun _ => ?_)
    refine m_sg k186 14 (fun _ => rfl) (show ¬ nI C = 0 from nI_ne0 hC (by omega)) ?_
    rw [nI_ml s p, nI_add, nI_rm (by omega) (by omega), show (10 : Int32) * nI (bcd C a s p) = nI (10 * bcd C a s p) from nI_ml 10 _, nI_add, show nI p + 1 = nI (p + 1) from nI_1 p]
    exact c_186l hC hC5 ha hs hP n (p + 1) (by omega)
theorem c_186 {L k C : Nat} {Y : Sm} (hL : L ≤ 3072) (hk : k < 2 ^ 30) (hC : 0 < C) (hC5 : C ≤ 5) : ML L 6 0 186 [aR 68 0, aI (nI k), aI (nI C)] Y (fun w Z => Z = Y ∧ ∃ a s, a < C ∧ (s = 1 ∨ s = C - 1) ∧ w = some (aI (nI (bcd C a s C)))) nX := by
  refine ML_of [(0, aR 68 0), (1, aI (nI k)), (2, aI (nI C))] ?_
  refine m_sg k186 8 (fun _ => rfl) trivial ?_
  rw [show nI C - 1 = nI (C - 1) from nI_sb hC]
  refine m_xS k186 (n := 0) (As := [aR 68 0, aI (nI k), aI (nI 0), aI (nI (C - 1))]) (c_181 hL (by omega) (by omega) (by omega)) nX_no rfl rfl (fun w Z h9 => ?_)
  obtain ⟨e9, a, -, ha, rfl⟩ := h9
  cases e9
  refine m_sg k186 7 (fun _ => rfl) trivial ?_
  rw [show nI k + 1 = nI (k + 1) from nI_1 k]
  refine m_xS k186 (n := 0) (As := [aR 68 0, aI (nI (k + 1)), aI (nI 0), aI (nI 1)]) (c_181 hL (by omega) (by omega) (by omega)) nX_no rfl rfl (fun w Z h9 => ?_)
  obtain ⟨e9, b, -, hb, rfl⟩ := h9
  cases e9
  refine m_if_ne k186 rfl (fun _ => ?_) (fun _ => ?_)
  · refine m_sg k186 6 (fun _ => rfl) trivial ?_
    rw [show nI C - 1 = nI (C - 1) from nI_sb hC]
    exact c_186l hC hC5 (by omega) (by omega) ⟨rfl, a, C - 1, by omega, Or.inr rfl, rfl⟩ C 0 (by omega)
  · refine m_sg k186 5 (fun _ => rfl) trivial ?_
    exact c_186l (a := a) (s := 1) hC hC5 (by omega) (by decide) ⟨rfl, a, 1, by omega, Or.inl rfl, rfl⟩ C 0 (by omega)
