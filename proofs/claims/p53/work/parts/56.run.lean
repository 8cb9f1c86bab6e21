/-! k ticks of both sides -/
def TkN (P : Pm) (tu ro t s k n m : Nat) (r : Nat → Int32) (n' m' : Nat) (r' : Nat → Int32) : Prop := ∃ (R : Nat → Nat → Int32) (N M : Nat → Nat), (R 0 = r ∧ N 0 = n ∧ M 0 = m) ∧ (R k = r' ∧ N k = n' ∧ M k = m') ∧ ∀ j, j < k → GR P (R j) (t + j) (N j) (M j) s ∧ TkR P (-1 : Int32) (t + j) tu ro (N j) (M j) (N (j + 1)) (M (j + 1)) (R j) (R (j + 1))
theorem TkN.z {P : Pm} {tu ro t s n m : Nat} {r : Nat → Int32} : TkN P tu ro t s 0 n m r n m r := ⟨fun _ => r, fun _ => n, fun _ => m, ⟨rfl, rfl, rfl⟩, ⟨rfl, rfl, rfl⟩, fun j hj => by omega⟩
theorem TkN.snoc {P : Pm} {tu ro t s k n m n1 m1 n2 m2 : Nat} {r r1 r2 : Nat → Int32} (h : TkN P tu ro t s k n m r n1 m1 r1) (hG : GR P r1 (t + k) n1 m1 s) (hk : TkR P (-1 : Int32) (t + k) tu ro n1 m1 n2 m2 r1 r2) : TkN P tu ro t s (k + 1) n m r n2 m2 r2 := by
  obtain ⟨R, N, M, ⟨a1, a2, a3⟩, ⟨b1, b2, b3⟩, c⟩ := h
  have e : ∀ {α : Type} (F : Nat → α) (v : α) (j : Nat), j ≤ k → (fun i => if i ≤ k then F i else v) j = F j := fun F v j hj => if_pos hj
  have e2 : ∀ {α : Type} (F : Nat → α) (v : α), (fun i => if i ≤ k then F i else v) (k + 1) = v := fun F v => if_neg (by omega)
  refine ⟨fun i => if i ≤ k then R i else r2, fun i => if i ≤ k then N i else n2, fun i => if i ≤ k then M i else m2, ⟨?_, ?_, ?_⟩, ⟨e2 R r2, e2 N n2, e2 M m2⟩, fun j hj => ?_⟩
  · exact (e R r2 0 (by omega)).trans a1
  · exact (e N n2 0 (by omega)).trans a2
  · exact (e M m2 0 (by omega)).trans a3
  · rw [e R r2 j (by omega), e N n2 j (by omega), e M m2 j (by omega)]
    by_cases d : j = k
    · subst d
      rw [e2 R r2, e2 N n2, e2 M m2, b1, b2, b3]
      exact ⟨hG, hk⟩
    · rw [e R r2 (j + 1) (by omega), e N n2 (j + 1) (by omega), e M m2 (j + 1) (by omega)]
      exact c j (by omega)
/-- the class passes k ticks -/
theorem c_85 {Y : Sm} {c n m n' m' t s tu ro k : Nat} {P : Pm} {r r' : Nat → Int32} (h3 : 0 < P.1 ∧ P.1 ≤ 5 ∧ 0 < P.2.1 ∧ P.2.1 ≤ 8) (hW : WI P) (hS : SetI P tu ro) (hs : s ≤ 1000) (ht : t + k ≤ 1000000) (hk : k < 1000000) (h : CR Y c P r n m) (hT : TkN P tu ro t s k n m r n' m' r') : ∃ Z, fn_85 c (nI k) Y = some ((), Z) ∧ Fr (SS c) Y Z ∧ CR Z c P r' n' m' := by
  obtain ⟨R, N, M, ⟨a1, a2, a3⟩, ⟨b1, b2, b3⟩, hc⟩ := hT
  unfold fn_85
  have key := Ok_lp (F := fun x => fn_85_L2 c (nI k) x.1 x.2) (Q := fun x => ∃ Z, x = ((), Z) ∧ Fr (SS c) Y Z ∧ CR Z c P r' n' m') (fun j x => x.1 = nI j ∧ Fr (SS c) Y x.2 ∧ CR x.2 c P (R j) (N j) (M j)) k (N := FU) (FU_lt hk) (s := (nI 0, Y)) ?_ ?_ ?_
  · obtain ⟨x, e, Z, ex, h1⟩ := key
    exact ⟨Z, by rw [e, ex], h1⟩
  · rintro j ⟨l, W⟩ hj ⟨e, hF, hR⟩
    have e : l = nI j := e
    subst e
    obtain ⟨hG, hk⟩ := hc j hj
    have hm : M j + 1 ≤ 1001 := by have := hG.2.1; omega
    have hb : (M j + 1) * (t + j) ≤ 1001 * 1000000 := Nat.mul_le_mul hm (by omega)
    obtain ⟨Z, eZ, fZ, cZ⟩ := c_86 h3 hW hS hG (by omega) (by omega) hR hk
    refine ⟨.inl (nI (j + 1), Z), ?_, rfl, hF.tr fZ, cZ⟩
    simp only [fn_85_L2]
    rw [iteI_le_f hj (by omega), eZ, bd_t, nI_add]
  · rintro ⟨l, W⟩ ⟨e, hF, hR⟩
    have e : l = nI k := e
    subst e
    have hR : CR W c P (R k) (N k) (M k) := hR
    rw [b1, b2, b3] at hR
    refine ⟨.inr ((), W), ?_, W, rfl, hF, hR⟩
    simp only [fn_85_L2]
    rw [iteI_le_t (Nat.le_refl _) (by omega)]
  · refine ⟨rfl, Fr.rf, ?_⟩
    show CR Y c P (R 0) (N 0) (M 0)
    rw [a1, a2, a3]
    exact h

