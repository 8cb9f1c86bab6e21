def idxOf (f : Nat → Int32) (s : Int32) : Nat → Nat → Int32
  | 0, _ => -1
  | n + 1, i => if f i = s then nI i else idxOf f s n (i + 1)
theorem c_Requests_indexOf (g : Nat → Nat) (L j n : Nat) (X : Mm) (s : Int32) (hn : gI X 12 j 1 = nI n) (h40 : n ≤ 40) : Cn 38 4 (fun _ _ => False) g L X [aR 12 j, aI s] (fun v X2 => v = some (aI (idxOf (gI X 19 j) s n 0)) ∧ X2 = X) := by
  refine Cm_of [(0, aR 12 j), (1, aI s)] (fun _ h => h) ?_
  have hn31 : n < 2 ^ 31 := by omega
  have loop : ∀ k i, i + k = n → idxOf (gI X 19 j) s n 0 = idxOf (gI X 19 j) s k i → Vm 38 4 0 0 (fun _ _ => False) g L X (fun v X2 => v = some (aI (idxOf (gI X 19 j) s n 0)) ∧ X2 = X) noX 0 0 2 [(0, aR 12 j), (1, aI s), (2, aI (nI i))] [] X := by
    intro k
    induction k with
    | zero =>
      intro i hi he
      refine v_seg k38 100 rfl trivial ?_
      rw [hn]
      refine v_icmp_ge k38 rfl (fun c => ?_) (fun c => absurd (nI_le (by omega) (by omega)) c)
      refine v_seg k38 100 rfl trivial ?_
      exact n_ireturn k38 ⟨by rw [he]; rfl, rfl⟩
    | succ k ih =>
      intro i hi he
      refine v_seg k38 100 rfl trivial ?_
      rw [hn]
      refine v_icmp_ge k38 rfl (fun c => absurd c (nI_ge (by omega) hn31)) (fun c => ?_)
      refine v_seg k38 100 rfl ?_ ?_
      · sorry
      sorry
  refine v_seg k38 2 rfl trivial ?_
  exact loop n 0 (by omega) rfl
