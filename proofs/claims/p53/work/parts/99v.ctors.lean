/-! the constructors of the class that are called once (printed by wip/whole/e/genk.py) -/
/-- which setup is where, at the beginning -/
def g0 : Nat → Nat := fun a => cond (Nat.beq a 0) 1 (cond (Nat.beq a 1) 2 (cond (Nat.beq a 2) 0 (cond (Nat.ble a 999) 1 0)))
def kc16 (c : Nat → Nat) : Nat → Nat := (inc c 2)
def km16 (X : Mm) : Mm := (uI X 1 0 1 (0 : Int32))
abbrev Hy16 (c : Nat → Nat) : Prop := c 2 = 0
/-- BallotBus$Input.<init> -/
theorem ct16 {c : Nat → Nat} {ps : List Pe} {L : Nat} {X : Mm} (ho : okp ps 5) (h : Hy16 c) (h66 : c 66 = 0) : Kc 16 4 1 500 L c (rP g0 ((1, 0, nof) :: ps)) X [aR 1 0] (kc16 c) (rP g0 ps) (km16 X) := by
  have h2 : c 2 = 0 := h
  refine k_of [(0, aR 1 0)] rfl rfl rfl (fun z0 X0 => ?_)
  refine v_seg k16 4 (pc' := 8) (ls' := [(0, aR 1 0)]) (st' := [aI (500 : Int32), aR 1 0]) (X' := X) (cs' := []) rfl trivial ?_
  refine k_arB (m := 9) k16 2 (0) h2 (okp_c ho rfl rfl) rfl rfl rfl rfl (fun _ _ => rfl) rfl rfl h66 rfl ?_
  refine k_putF k16 rfl rfl rfl (by decide +kernel) (by decide +kernel) rfl rfl rfl (fun _ => rfl) (fun _ => rfl) ?_
  refine v_seg k16 3 (pc' := 18) (ls' := [(0, aR 1 0)]) (st' := []) (X' := (uI X 1 0 1 (0 : Int32))) (cs' := [allw 1 0]) rfl rfl ?_
  refine k_pop (m := 5) (n := 2) ho rfl rfl rfl (fun j hj => match j, hj with | 0, _ => rfl | 1, _ => rfl | (j + 2), hj => absurd hj (by omega)) ?_
  exact k_ret k16 rfl rfl rfl
def kc93 (c : Nat → Nat) : Nat → Nat := c
def km93 (X : Mm) : Mm := (uI (uI (uI X 4 0 1 (0 : Int32)) 4 0 2 (0 : Int32)) 4 0 3 (0 : Int32))
/-- BallotBus$Tokens.<init> -/
theorem ct93 {c : Nat → Nat} {ps : List Pe} {L : Nat} {X : Mm} (ho : okp ps 5) (h66 : c 66 = 0) : Kc 93 4 0 0 L c (rP g0 ((4, 0, nof) :: ps)) X [aR 4 0, aR 1 0] (kc93 c) (rP g0 ps) (km93 X) := by
  refine k_of [(0, aR 4 0), (1, aR 1 0)] rfl rfl rfl (fun z0 X0 => ?_)
  refine v_seg k93 5 (pc' := 9) (ls' := [(0, aR 4 0), (1, aR 1 0)]) (st' := []) (X' := (uI X 4 0 1 (0 : Int32))) (cs' := [allw 4 0]) rfl rfl ?_
  refine v_seg k93 6 (pc' := 19) (ls' := [(0, aR 4 0), (1, aR 1 0)]) (st' := []) (X' := (uI (uI (uI X 4 0 1 (0 : Int32)) 4 0 2 (0 : Int32)) 4 0 3 (0 : Int32))) (cs' := [allw 4 0, allw 4 0]) rfl ⟨rfl, rfl⟩ ?_
  refine v_seg k93 2 (pc' := 21) (ls' := [(0, aR 4 0), (1, aR 1 0)]) (st' := [aR 1 0, aR 4 0]) (X' := (uI (uI (uI X 4 0 1 (0 : Int32)) 4 0 2 (0 : Int32)) 4 0 3 (0 : Int32))) (cs' := []) rfl trivial ?_
  refine k_putF k93 rfl rfl rfl (by decide +kernel) (by decide +kernel) rfl rfl rfl (fun _ => rfl) (fun _ => rfl) ?_
  refine k_pop (m := 5) (n := 4) ho rfl rfl rfl (fun j hj => match j, hj with | 0, _ => rfl | 1, _ => rfl | 2, _ => rfl | 3, _ => rfl | (j + 4), hj => absurd hj (by omega)) ?_
  exact k_ret k93 rfl rfl rfl
def kc58 (c : Nat → Nat) : Nat → Nat := (kc93 (inc (kc51 (inc c 5)) 4))
def km58 (X : Mm) : Mm := (km93 (uI (uI (uI (km51 0 X) 3 0 2 (0 : Int32)) 3 0 3 (0 : Int32)) 3 0 4 (-1 : Int32)))
abbrev Hy58 (c : Nat → Nat) : Prop := c 5 = 0 ∧ c 6 = 0 ∧ c 7 = 0 ∧ c 8 = 0 ∧ c 9 = 0 ∧ c 10 = 0 ∧ c 11 = 0 ∧ c 12 = 0 ∧ c 14 = 0 ∧ c 15 = 0 ∧ c 16 = 0 ∧ c 17 = 0 ∧ c 18 = 0 ∧ c 19 = 0 ∧ c 13 = 0 ∧ c 4 = 0
/-- BallotBus$SetupReader.<init> -/
theorem ct58 {c : Nat → Nat} {ps : List Pe} {L : Nat} {X : Mm} (ho : okp ps 2) (h : Hy58 c) (h66 : c 66 = 0) : Kc 58 6 16 302 L c (rP g0 ((3, 0, nof) :: ps)) X [aR 3 0, aR 1 0] (kc58 c) (rP g0 ps) (km58 X) := by
  obtain ⟨h5, h6, h7, h8, h9, h10, h11, h12, h14, h15, h16, h17, h18, h19, h13, h4⟩ := h
  refine k_of [(0, aR 3 0), (1, aR 1 0)] rfl rfl rfl (fun z0 X0 => ?_)
  refine v_seg k58 3 (pc' := 5) (ls' := [(0, aR 3 0), (1, aR 1 0)]) (st' := [aR 3 0]) (X' := X) (cs' := []) rfl trivial ?_
  refine k_new k58 5 (0) h5 rfl rfl rfl rfl h66 rfl ?_
  refine v_seg k58 1 (pc' := 9) (ls' := [(0, aR 3 0), (1, aR 1 0)]) (st' := [aR 5 0, aR 5 0, aR 3 0]) (X' := X) (cs' := []) rfl trivial ?_
  refine k_call k58 (st := [aR 5 0, aR 3 0]) rfl (ct51 (okp_c ho rfl rfl) ⟨h6, h7, h8, h9, h10, h11, h12, h14, h15, h16, h17, h18, h19, h13⟩ h66) rfl rfl rfl rfl rfl ?_
  refine k_put k58 rfl rfl rfl (by decide +kernel) rfl rfl (fun _ => rfl) (fun _ => rfl) ?_
  refine v_seg k58 6 (pc' := 25) (ls' := [(0, aR 3 0), (1, aR 1 0)]) (st' := []) (X' := (uI (uI (km51 0 X) 3 0 2 (0 : Int32)) 3 0 3 (0 : Int32))) (cs' := [allw 3 0, allw 3 0]) rfl ⟨rfl, rfl⟩ ?_
  refine v_seg k58 4 (pc' := 31) (ls' := [(0, aR 3 0), (1, aR 1 0)]) (st' := [aR 3 0]) (X' := (uI (uI (uI (km51 0 X) 3 0 2 (0 : Int32)) 3 0 3 (0 : Int32)) 3 0 4 (-1 : Int32))) (cs' := [allw 3 0]) rfl rfl ?_
  refine k_new k58 4 (0) h4 rfl rfl rfl rfl h66 rfl ?_
  refine v_seg k58 2 (pc' := 36) (ls' := [(0, aR 3 0), (1, aR 1 0)]) (st' := [aR 1 0, aR 4 0, aR 4 0, aR 3 0]) (X' := (uI (uI (uI (km51 0 X) 3 0 2 (0 : Int32)) 3 0 3 (0 : Int32)) 3 0 4 (-1 : Int32))) (cs' := []) rfl trivial ?_
  refine k_call k58 (st := [aR 4 0, aR 3 0]) rfl (ct93 (okp_c ho rfl rfl)  h66) rfl rfl rfl rfl rfl ?_
  refine k_putF k58 rfl rfl rfl (by decide +kernel) (by decide +kernel) rfl rfl rfl (fun _ => rfl) (fun _ => rfl) ?_
  refine k_pop (m := 2) (n := 5) ho rfl rfl rfl (fun j hj => match j, hj with | 0, _ => rfl | 1, _ => rfl | 2, _ => rfl | 3, _ => rfl | 4, _ => rfl | (j + 5), hj => absurd hj (by omega)) ?_
  exact k_ret k58 rfl rfl rfl
def kc24 (c : Nat → Nat) : Nat → Nat := (rwC (rwC (inc (inc c 40) 41) [43, 43, 43, 43, 43, 42]) [45, 45, 45, 45, 45, 44])
def km24 (X : Mm) : Mm := (uI (uI X 39 0 0 (0 : Int32)) 39 0 1 (0 : Int32))
abbrev Hy24 (c : Nat → Nat) : Prop := c 40 = 0 ∧ c 41 = 0 ∧ c 43 = 0 ∧ c 42 = 0 ∧ c 45 = 0 ∧ c 44 = 0
/-- BallotBus$Poll.<init> -/
theorem ct24 {c : Nat → Nat} {ps : List Pe} {L : Nat} {X : Mm} (ho : okp ps 5) (h : Hy24 c) (h66 : c 66 = 0) : Kc 24 4 14 70 L c (rP g0 ((39, 0, nof) :: ps)) X [aR 39 0] (kc24 c) (rP g0 ps) (km24 X) := by
  obtain ⟨h40, h41, h43, h42, h45, h44⟩ := h
  refine k_of [(0, aR 39 0)] rfl rfl rfl (fun z0 X0 => ?_)
  refine v_seg k24 5 (pc' := 9) (ls' := [(0, aR 39 0)]) (st' := []) (X' := (uI X 39 0 0 (0 : Int32))) (cs' := [allw 39 0]) rfl rfl ?_
  refine v_seg k24 5 (pc' := 16) (ls' := [(0, aR 39 0)]) (st' := [aI (5 : Int32), aR 39 0]) (X' := (uI (uI X 39 0 0 (0 : Int32)) 39 0 1 (0 : Int32))) (cs' := [allw 39 0]) rfl rfl ?_
  refine k_arI (m := 9) k24 40 (0) h40 (okp_c ho rfl rfl) rfl rfl rfl rfl (fun _ _ => rfl) rfl rfl h66 rfl ?_
  refine k_putF k24 rfl rfl rfl (by decide +kernel) (by decide +kernel) rfl rfl rfl (fun _ => rfl) (fun _ => rfl) ?_
  refine v_seg k24 2 (pc' := 23) (ls' := [(0, aR 39 0)]) (st' := [aI (5 : Int32), aR 39 0]) (X' := (uI (uI X 39 0 0 (0 : Int32)) 39 0 1 (0 : Int32))) (cs' := []) rfl trivial ?_
  refine k_arI (m := 9) k24 41 (0) h41 (okp_c ho rfl rfl) rfl rfl rfl rfl (fun _ _ => rfl) rfl rfl h66 rfl ?_
  refine k_putF k24 rfl rfl rfl (by decide +kernel) (by decide +kernel) rfl rfl rfl (fun _ => rfl) (fun _ => rfl) ?_
  refine v_seg k24 3 (pc' := 31) (ls' := [(0, aR 39 0)]) (st' := [aI (5 : Int32), aI (5 : Int32), aR 39 0]) (X' := (uI (uI X 39 0 0 (0 : Int32)) 39 0 1 (0 : Int32))) (cs' := []) rfl trivial ?_
  refine k_mna (m' := 9) (kO := 42) (iO := 0) k24 [43, 43, 43, 43, 43] h42 (okp_c ho rfl rfl) rfl rfl rfl rfl rfl fx_clP rfl rfl (al_c ⟨⟨rfl, rfl, by decide⟩, rfl, fun _ _ => rfl⟩ (al_c ⟨⟨rfl, rfl, by decide⟩, rfl, fun _ _ => rfl⟩ (al_c ⟨⟨rfl, rfl, by decide⟩, rfl, fun _ _ => rfl⟩ (al_c ⟨⟨rfl, rfl, by decide⟩, rfl, fun _ _ => rfl⟩ (al_c ⟨⟨rfl, rfl, by decide⟩, rfl, fun _ _ => rfl⟩ (fun k hk => nomatch hk)))))) rfl h66 (by decide) (fun j hj => match j, hj with | 0, _ => (@Eq.trans _ _ (some (43, 0)) _ rfl (congrArg (fun x => some (43, x + 0)) h43.symm)) | 1, _ => (@Eq.trans _ _ (some (43, 1)) _ rfl (congrArg (fun x => some (43, x + 1)) h43.symm)) | 2, _ => (@Eq.trans _ _ (some (43, 2)) _ rfl (congrArg (fun x => some (43, x + 2)) h43.symm)) | 3, _ => (@Eq.trans _ _ (some (43, 3)) _ rfl (congrArg (fun x => some (43, x + 3)) h43.symm)) | 4, _ => (@Eq.trans _ _ (some (43, 4)) _ rfl (congrArg (fun x => some (43, x + 4)) h43.symm)) | (j + 5), hj => absurd hj (by omega)) rfl ?_
  refine k_putF k24 rfl rfl rfl (by decide +kernel) (by decide +kernel) rfl rfl rfl (fun _ => rfl) (fun _ => rfl) ?_
  refine v_seg k24 3 (pc' := 41) (ls' := [(0, aR 39 0)]) (st' := [aI (5 : Int32), aI (5 : Int32), aR 39 0]) (X' := (uI (uI X 39 0 0 (0 : Int32)) 39 0 1 (0 : Int32))) (cs' := []) rfl trivial ?_
  refine k_mna (m' := 9) (kO := 44) (iO := 0) k24 [45, 45, 45, 45, 45] h44 (okp_c ho rfl rfl) rfl rfl rfl rfl rfl fx_clP rfl rfl (al_c ⟨⟨rfl, rfl, by decide⟩, rfl, fun _ _ => rfl⟩ (al_c ⟨⟨rfl, rfl, by decide⟩, rfl, fun _ _ => rfl⟩ (al_c ⟨⟨rfl, rfl, by decide⟩, rfl, fun _ _ => rfl⟩ (al_c ⟨⟨rfl, rfl, by decide⟩, rfl, fun _ _ => rfl⟩ (al_c ⟨⟨rfl, rfl, by decide⟩, rfl, fun _ _ => rfl⟩ (fun k hk => nomatch hk)))))) rfl h66 (by decide) (fun j hj => match j, hj with | 0, _ => (@Eq.trans _ _ (some (45, 0)) _ rfl (congrArg (fun x => some (45, x + 0)) h45.symm)) | 1, _ => (@Eq.trans _ _ (some (45, 1)) _ rfl (congrArg (fun x => some (45, x + 1)) h45.symm)) | 2, _ => (@Eq.trans _ _ (some (45, 2)) _ rfl (congrArg (fun x => some (45, x + 2)) h45.symm)) | 3, _ => (@Eq.trans _ _ (some (45, 3)) _ rfl (congrArg (fun x => some (45, x + 3)) h45.symm)) | 4, _ => (@Eq.trans _ _ (some (45, 4)) _ rfl (congrArg (fun x => some (45, x + 4)) h45.symm)) | (j + 5), hj => absurd hj (by omega)) rfl ?_
  refine k_putF k24 rfl rfl rfl (by decide +kernel) (by decide +kernel) rfl rfl rfl (fun _ => rfl) (fun _ => rfl) ?_
  refine k_pop (m := 5) (n := 6) ho rfl rfl rfl (fun j hj => match j, hj with | 0, _ => rfl | 1, _ => rfl | 2, _ => rfl | 3, _ => rfl | 4, _ => rfl | 5, _ => rfl | (j + 6), hj => absurd hj (by omega)) ?_
  exact k_ret k24 rfl rfl rfl
theorem k_swap {y d mc ms : Nat} {z0 : Zz} {X0 : Mm} {QR : Option Av → Zz → Mm → Prop} {QX : Nat → Zz → Mm → Prop} {pc : Nat} {ls : Lo} {st : List Av} {X : Mm} {c g : Nat → Nat} {ps : List Pe} {L u v k i k2 i2 : Nat} {f f2 : Nat → Option (Nat × Nat)} (h : Nat.beq k k2 = false)
    (kk : V y [] d mc ms allw z0 X0 QR QX (c, rP g ((k2, i2, f2) :: (k, i, f) :: ps), L, u, v) pc ls st X) : V y [] d mc ms allw z0 X0 QR QX (c, rP g ((k, i, f) :: (k2, i2, f2) :: ps), L, u, v) pc ls st X := by
  refine v_refs c (rP g ((k2, i2, f2) :: (k, i, f) :: ps)) rfl (fun a b j _ => ?_) kk
  have hne : k ≠ k2 := Nat.ne_of_beq_eq_false h
  show _ = rP g ((k, i, f) :: (k2, i2, f2) :: ps) a b j
  by_cases h1 : a = k ∧ b = i
  · obtain ⟨rfl, rfl⟩ := h1
    rw [rP_hd, rP_tl (fun q => hne q.1), rP_hd]
  · rw [rP_tl h1]
    by_cases h2 : a = k2 ∧ b = i2
    · obtain ⟨rfl, rfl⟩ := h2
      rw [rP_hd, rP_hd]
    · rw [rP_tl h2, rP_tl h2, rP_tl h1]
/-- what is made when the law begins: the script -/
def cB : Nat → Nat := fun k => cond (Nat.beq k 68) 1 0
theorem inc_ge {c : Nat → Nat} {k a : Nat} (h : 69 ≤ a) (hk : Nat.ble k 68 = true) (h2 : c a = 0) : inc c k a = 0 := by
  have hne : ¬ a = k := fun e => by have := Nat.le_of_ble_eq_true hk; omega
  unfold inc
  rw [if_neg hne, h2]
theorem rwC_ge {c : Nat → Nat} {ks : List Nat} {a : Nat} (h : 69 ≤ a) (hk : ks.all (fun k => Nat.ble k 68) = true) (h2 : c a = 0) : rwC c ks a = 0 := by
  rw [rwC_ne (fun q => by have := Nat.le_of_ble_eq_true (List.all_eq_true.mp hk a q); omega), h2]
/-- what is made when the history is begun -/
def cH : Nat → Nat := (inc (kc70 (inc (kc70 (inc (kc70 (inc (kc51 (inc (kc51 (inc (inc (kc58 (inc (kc16 (inc (inc cB 0) 1)) 3)) 20) 5)) 5)) 21)) 21)) 21)) 37)
def km13 (X : Mm) : Mm := (km70 10 (km70 9 (km70 8 (km70 7 (km70 6 (km70 5 (km70 4 (km70 3 (uI (uI X 37 0 1 (0 : Int32)) 37 0 2 (0 : Int32))))))))))
def kc13 : Nat → Nat := (kc70 (inc (kc70 (inc (kc70 (inc (kc70 (inc (kc70 (inc (kc70 (inc (kc70 (inc (kc70 (inc (inc cH 38) 21)) 21)) 21)) 21)) 21)) 21)) 21)) 21))
/-- BallotBus$History.<init> -/
theorem ct13 {ps : List Pe} {L : Nat} {X : Mm} (ho : okp ps 2) : Kc 13 6 249 6016 L cH (rP g0 ((37, 0, nof) :: ps)) X [aR 37 0, aR 5 1] kc13 (rP g0 ps) (km13 X) := by
  refine k_of [(0, aR 37 0), (1, aR 5 1)] rfl rfl rfl (fun z0 X0 => ?_)
  refine v_seg k13 4 (pc' := 7) (ls' := [(0, aR 37 0), (1, aR 5 1)]) (st' := [aI (8 : Int32), aR 37 0]) (X' := X) (cs' := []) rfl trivial ?_
  refine k_arO (c9 := 0) k13 38 (0) (by decide +kernel) rfl rfl rfl fx_clH rfl rfl (by decide +kernel) rfl ?_
  refine k_swap rfl ?_
  refine k_putF k13 rfl rfl rfl (by decide +kernel) (by decide +kernel) rfl rfl rfl (fun _ => rfl) (fun _ => rfl) ?_
  refine v_seg k13 6 (pc' := 23) (ls' := [(0, aR 37 0), (1, aR 5 1)]) (st' := []) (X' := (uI (uI X 37 0 1 (0 : Int32)) 37 0 2 (0 : Int32))) (cs' := [allw 37 0, allw 37 0]) rfl ⟨rfl, rfl⟩ ?_
  refine v_seg k13 4 (pc' := 28) (ls' := [(0, aR 37 0), (1, aR 5 1), (2, aI (0 : Int32))]) (st' := [aI (8 : Int32), aI (0 : Int32)]) (X' := (uI (uI X 37 0 1 (0 : Int32)) 37 0 2 (0 : Int32))) (cs' := []) rfl trivial ?_
  refine v_icmp_ge k13 rfl (fun c => absurd c (by decide)) (fun _ => ?_)
  refine v_seg k13 3 (pc' := 36) (ls' := [(0, aR 37 0), (1, aR 5 1), (2, aI (0 : Int32))]) (st' := [aI (0 : Int32), aR 38 0]) (X' := (uI (uI X 37 0 1 (0 : Int32)) 37 0 2 (0 : Int32))) (cs' := []) rfl trivial ?_
  refine k_new k13 21 (3) (by decide +kernel) rfl rfl rfl rfl (by decide +kernel) rfl ?_
  refine v_seg k13 2 (pc' := 41) (ls' := [(0, aR 37 0), (1, aR 5 1), (2, aI (0 : Int32))]) (st' := [aR 5 1, aR 21 3, aR 21 3, aI (0 : Int32), aR 38 0]) (X' := (uI (uI X 37 0 1 (0 : Int32)) 37 0 2 (0 : Int32))) (cs' := []) rfl trivial ?_
  refine k_call k13 (st := [aR 21 3, aI (0 : Int32), aR 38 0]) rfl (ct70 (okp_c (okp_c (m := 4) ho rfl rfl) rfl rfl) (by decide +kernel) (by decide +kernel) rfl) rfl rfl rfl rfl rfl ?_
  refine k_swap rfl ?_
  refine k_aast k13 0 rfl rfl rfl rfl rfl rfl rfl rfl rfl ?_
  refine v_seg k13 4 (pc' := 28) (ls' := [(0, aR 37 0), (1, aR 5 1), (2, aI (1 : Int32))]) (st' := [aI (8 : Int32), aI (1 : Int32)]) (X' := (km70 3 (uI (uI X 37 0 1 (0 : Int32)) 37 0 2 (0 : Int32)))) (cs' := []) rfl trivial ?_
  refine v_icmp_ge k13 rfl (fun c => absurd c (by decide)) (fun _ => ?_)
  refine v_seg k13 3 (pc' := 36) (ls' := [(0, aR 37 0), (1, aR 5 1), (2, aI (1 : Int32))]) (st' := [aI (1 : Int32), aR 38 0]) (X' := (km70 3 (uI (uI X 37 0 1 (0 : Int32)) 37 0 2 (0 : Int32)))) (cs' := []) rfl trivial ?_
  refine k_new k13 21 (4) (by decide +kernel) rfl rfl rfl rfl (by decide +kernel) rfl ?_
  refine v_seg k13 2 (pc' := 41) (ls' := [(0, aR 37 0), (1, aR 5 1), (2, aI (1 : Int32))]) (st' := [aR 5 1, aR 21 4, aR 21 4, aI (1 : Int32), aR 38 0]) (X' := (km70 3 (uI (uI X 37 0 1 (0 : Int32)) 37 0 2 (0 : Int32)))) (cs' := []) rfl trivial ?_
  refine k_call k13 (st := [aR 21 4, aI (1 : Int32), aR 38 0]) rfl (ct70 (okp_c (okp_c (m := 3) ho rfl rfl) rfl rfl) (by decide +kernel) (by decide +kernel) rfl) rfl rfl rfl rfl rfl ?_
  refine k_aast k13 1 rfl rfl rfl rfl rfl rfl rfl rfl rfl ?_
  refine v_seg k13 4 (pc' := 28) (ls' := [(0, aR 37 0), (1, aR 5 1), (2, aI (2 : Int32))]) (st' := [aI (8 : Int32), aI (2 : Int32)]) (X' := (km70 4 (km70 3 (uI (uI X 37 0 1 (0 : Int32)) 37 0 2 (0 : Int32))))) (cs' := []) rfl trivial ?_
  refine v_icmp_ge k13 rfl (fun c => absurd c (by decide)) (fun _ => ?_)
  refine v_seg k13 3 (pc' := 36) (ls' := [(0, aR 37 0), (1, aR 5 1), (2, aI (2 : Int32))]) (st' := [aI (2 : Int32), aR 38 0]) (X' := (km70 4 (km70 3 (uI (uI X 37 0 1 (0 : Int32)) 37 0 2 (0 : Int32))))) (cs' := []) rfl trivial ?_
  refine k_new k13 21 (5) (by decide +kernel) rfl rfl rfl rfl (by decide +kernel) rfl ?_
  refine v_seg k13 2 (pc' := 41) (ls' := [(0, aR 37 0), (1, aR 5 1), (2, aI (2 : Int32))]) (st' := [aR 5 1, aR 21 5, aR 21 5, aI (2 : Int32), aR 38 0]) (X' := (km70 4 (km70 3 (uI (uI X 37 0 1 (0 : Int32)) 37 0 2 (0 : Int32))))) (cs' := []) rfl trivial ?_
  refine k_call k13 (st := [aR 21 5, aI (2 : Int32), aR 38 0]) rfl (ct70 (okp_c (okp_c (m := 3) ho rfl rfl) rfl rfl) (by decide +kernel) (by decide +kernel) rfl) rfl rfl rfl rfl rfl ?_
  refine k_aast k13 2 rfl rfl rfl rfl rfl rfl rfl rfl rfl ?_
  refine v_seg k13 4 (pc' := 28) (ls' := [(0, aR 37 0), (1, aR 5 1), (2, aI (3 : Int32))]) (st' := [aI (8 : Int32), aI (3 : Int32)]) (X' := (km70 5 (km70 4 (km70 3 (uI (uI X 37 0 1 (0 : Int32)) 37 0 2 (0 : Int32)))))) (cs' := []) rfl trivial ?_
  refine v_icmp_ge k13 rfl (fun c => absurd c (by decide)) (fun _ => ?_)
  refine v_seg k13 3 (pc' := 36) (ls' := [(0, aR 37 0), (1, aR 5 1), (2, aI (3 : Int32))]) (st' := [aI (3 : Int32), aR 38 0]) (X' := (km70 5 (km70 4 (km70 3 (uI (uI X 37 0 1 (0 : Int32)) 37 0 2 (0 : Int32)))))) (cs' := []) rfl trivial ?_
  refine k_new k13 21 (6) (by decide +kernel) rfl rfl rfl rfl (by decide +kernel) rfl ?_
  refine v_seg k13 2 (pc' := 41) (ls' := [(0, aR 37 0), (1, aR 5 1), (2, aI (3 : Int32))]) (st' := [aR 5 1, aR 21 6, aR 21 6, aI (3 : Int32), aR 38 0]) (X' := (km70 5 (km70 4 (km70 3 (uI (uI X 37 0 1 (0 : Int32)) 37 0 2 (0 : Int32)))))) (cs' := []) rfl trivial ?_
  refine k_call k13 (st := [aR 21 6, aI (3 : Int32), aR 38 0]) rfl (ct70 (okp_c (okp_c (m := 3) ho rfl rfl) rfl rfl) (by decide +kernel) (by decide +kernel) rfl) rfl rfl rfl rfl rfl ?_
  refine k_aast k13 3 rfl rfl rfl rfl rfl rfl rfl rfl rfl ?_
  refine v_seg k13 4 (pc' := 28) (ls' := [(0, aR 37 0), (1, aR 5 1), (2, aI (4 : Int32))]) (st' := [aI (8 : Int32), aI (4 : Int32)]) (X' := (km70 6 (km70 5 (km70 4 (km70 3 (uI (uI X 37 0 1 (0 : Int32)) 37 0 2 (0 : Int32))))))) (cs' := []) rfl trivial ?_
  refine v_icmp_ge k13 rfl (fun c => absurd c (by decide)) (fun _ => ?_)
  refine v_seg k13 3 (pc' := 36) (ls' := [(0, aR 37 0), (1, aR 5 1), (2, aI (4 : Int32))]) (st' := [aI (4 : Int32), aR 38 0]) (X' := (km70 6 (km70 5 (km70 4 (km70 3 (uI (uI X 37 0 1 (0 : Int32)) 37 0 2 (0 : Int32))))))) (cs' := []) rfl trivial ?_
  refine k_new k13 21 (7) (by decide +kernel) rfl rfl rfl rfl (by decide +kernel) rfl ?_
  refine v_seg k13 2 (pc' := 41) (ls' := [(0, aR 37 0), (1, aR 5 1), (2, aI (4 : Int32))]) (st' := [aR 5 1, aR 21 7, aR 21 7, aI (4 : Int32), aR 38 0]) (X' := (km70 6 (km70 5 (km70 4 (km70 3 (uI (uI X 37 0 1 (0 : Int32)) 37 0 2 (0 : Int32))))))) (cs' := []) rfl trivial ?_
  refine k_call k13 (st := [aR 21 7, aI (4 : Int32), aR 38 0]) rfl (ct70 (okp_c (okp_c (m := 3) ho rfl rfl) rfl rfl) (by decide +kernel) (by decide +kernel) rfl) rfl rfl rfl rfl rfl ?_
  refine k_aast k13 4 rfl rfl rfl rfl rfl rfl rfl rfl rfl ?_
  refine v_seg k13 4 (pc' := 28) (ls' := [(0, aR 37 0), (1, aR 5 1), (2, aI (5 : Int32))]) (st' := [aI (8 : Int32), aI (5 : Int32)]) (X' := (km70 7 (km70 6 (km70 5 (km70 4 (km70 3 (uI (uI X 37 0 1 (0 : Int32)) 37 0 2 (0 : Int32)))))))) (cs' := []) rfl trivial ?_
  refine v_icmp_ge k13 rfl (fun c => absurd c (by decide)) (fun _ => ?_)
  refine v_seg k13 3 (pc' := 36) (ls' := [(0, aR 37 0), (1, aR 5 1), (2, aI (5 : Int32))]) (st' := [aI (5 : Int32), aR 38 0]) (X' := (km70 7 (km70 6 (km70 5 (km70 4 (km70 3 (uI (uI X 37 0 1 (0 : Int32)) 37 0 2 (0 : Int32)))))))) (cs' := []) rfl trivial ?_
  refine k_new k13 21 (8) (by decide +kernel) rfl rfl rfl rfl (by decide +kernel) rfl ?_
  refine v_seg k13 2 (pc' := 41) (ls' := [(0, aR 37 0), (1, aR 5 1), (2, aI (5 : Int32))]) (st' := [aR 5 1, aR 21 8, aR 21 8, aI (5 : Int32), aR 38 0]) (X' := (km70 7 (km70 6 (km70 5 (km70 4 (km70 3 (uI (uI X 37 0 1 (0 : Int32)) 37 0 2 (0 : Int32)))))))) (cs' := []) rfl trivial ?_
  refine k_call k13 (st := [aR 21 8, aI (5 : Int32), aR 38 0]) rfl (ct70 (okp_c (okp_c (m := 3) ho rfl rfl) rfl rfl) (by decide +kernel) (by decide +kernel) rfl) rfl rfl rfl rfl rfl ?_
  refine k_aast k13 5 rfl rfl rfl rfl rfl rfl rfl rfl rfl ?_
  refine v_seg k13 4 (pc' := 28) (ls' := [(0, aR 37 0), (1, aR 5 1), (2, aI (6 : Int32))]) (st' := [aI (8 : Int32), aI (6 : Int32)]) (X' := (km70 8 (km70 7 (km70 6 (km70 5 (km70 4 (km70 3 (uI (uI X 37 0 1 (0 : Int32)) 37 0 2 (0 : Int32))))))))) (cs' := []) rfl trivial ?_
  refine v_icmp_ge k13 rfl (fun c => absurd c (by decide)) (fun _ => ?_)
  refine v_seg k13 3 (pc' := 36) (ls' := [(0, aR 37 0), (1, aR 5 1), (2, aI (6 : Int32))]) (st' := [aI (6 : Int32), aR 38 0]) (X' := (km70 8 (km70 7 (km70 6 (km70 5 (km70 4 (km70 3 (uI (uI X 37 0 1 (0 : Int32)) 37 0 2 (0 : Int32))))))))) (cs' := []) rfl trivial ?_
  refine k_new k13 21 (9) (by decide +kernel) rfl rfl rfl rfl (by decide +kernel) rfl ?_
  refine v_seg k13 2 (pc' := 41) (ls' := [(0, aR 37 0), (1, aR 5 1), (2, aI (6 : Int32))]) (st' := [aR 5 1, aR 21 9, aR 21 9, aI (6 : Int32), aR 38 0]) (X' := (km70 8 (km70 7 (km70 6 (km70 5 (km70 4 (km70 3 (uI (uI X 37 0 1 (0 : Int32)) 37 0 2 (0 : Int32))))))))) (cs' := []) rfl trivial ?_
  refine k_call k13 (st := [aR 21 9, aI (6 : Int32), aR 38 0]) rfl (ct70 (okp_c (okp_c (m := 3) ho rfl rfl) rfl rfl) (by decide +kernel) (by decide +kernel) rfl) rfl rfl rfl rfl rfl ?_
  refine k_aast k13 6 rfl rfl rfl rfl rfl rfl rfl rfl rfl ?_
  refine v_seg k13 4 (pc' := 28) (ls' := [(0, aR 37 0), (1, aR 5 1), (2, aI (7 : Int32))]) (st' := [aI (8 : Int32), aI (7 : Int32)]) (X' := (km70 9 (km70 8 (km70 7 (km70 6 (km70 5 (km70 4 (km70 3 (uI (uI X 37 0 1 (0 : Int32)) 37 0 2 (0 : Int32)))))))))) (cs' := []) rfl trivial ?_
  refine v_icmp_ge k13 rfl (fun c => absurd c (by decide)) (fun _ => ?_)
  refine v_seg k13 3 (pc' := 36) (ls' := [(0, aR 37 0), (1, aR 5 1), (2, aI (7 : Int32))]) (st' := [aI (7 : Int32), aR 38 0]) (X' := (km70 9 (km70 8 (km70 7 (km70 6 (km70 5 (km70 4 (km70 3 (uI (uI X 37 0 1 (0 : Int32)) 37 0 2 (0 : Int32)))))))))) (cs' := []) rfl trivial ?_
  refine k_new k13 21 (10) (by decide +kernel) rfl rfl rfl rfl (by decide +kernel) rfl ?_
  refine v_seg k13 2 (pc' := 41) (ls' := [(0, aR 37 0), (1, aR 5 1), (2, aI (7 : Int32))]) (st' := [aR 5 1, aR 21 10, aR 21 10, aI (7 : Int32), aR 38 0]) (X' := (km70 9 (km70 8 (km70 7 (km70 6 (km70 5 (km70 4 (km70 3 (uI (uI X 37 0 1 (0 : Int32)) 37 0 2 (0 : Int32)))))))))) (cs' := []) rfl trivial ?_
  refine k_call k13 (st := [aR 21 10, aI (7 : Int32), aR 38 0]) rfl (ct70 (okp_c (okp_c (m := 3) ho rfl rfl) rfl rfl) (by decide +kernel) (by decide +kernel) rfl) rfl rfl rfl rfl rfl ?_
  refine k_aast k13 7 rfl rfl rfl rfl rfl rfl rfl rfl rfl ?_
  refine v_seg k13 4 (pc' := 28) (ls' := [(0, aR 37 0), (1, aR 5 1), (2, aI (8 : Int32))]) (st' := [aI (8 : Int32), aI (8 : Int32)]) (X' := (km70 10 (km70 9 (km70 8 (km70 7 (km70 6 (km70 5 (km70 4 (km70 3 (uI (uI X 37 0 1 (0 : Int32)) 37 0 2 (0 : Int32))))))))))) (cs' := []) rfl trivial ?_
  refine v_icmp_ge k13 rfl (fun _ => ?_) (fun c => absurd (by decide) c)
  refine k_pop (m := 3) (n := 8) (okp_c ho rfl rfl) rfl rfl rfl (fun j hj => match j, hj with | 0, _ => rfl | 1, _ => rfl | 2, _ => rfl | 3, _ => rfl | 4, _ => rfl | 5, _ => rfl | 6, _ => rfl | 7, _ => rfl | (j + 8), hj => absurd hj (by omega)) ?_
  refine k_pop (m := 2) (n := 3) ho rfl rfl rfl (fun j hj => match j, hj with | 0, _ => rfl | 1, _ => rfl | 2, _ => rfl | (j + 3), hj => absurd hj (by omega)) ?_
  exact k_ret k13 rfl rfl rfl
def kmB (X : Mm) : Mm := (km24 (km13 (uI (km70 2 (km70 1 (km70 0 (km51 2 (km51 1 (uI (uI (uI (km58 (km16 X)) 0 0 3 (0 : Int32)) 0 0 4 (0 : Int32)) 0 0 5 (-1 : Int32))))))) 0 0 11 (0 : Int32))))
def kcB : Nat → Nat := (inc (inc (kc24 (inc kc13 39)) 46) 47)
/-- BallotBus.<init>, up to where all is made -/
theorem ctB {mc ms : Nat} {L : Nat} {X X0 : Mm} {z0 : Zz} {QR : Option Av → Zz → Mm → Prop} {QX : Nat → Zz → Mm → Prop} (hmc : mc = 410) (hms : ms = 9827) (kk : V 103 [] 7 mc ms allw z0 X0 QR QX (kcB, rP g0 [], L, 410, 9827) 165 [(0, aR 0 0)] [] (kmB X)) : V 103 [] 7 mc ms allw z0 X0 QR QX (inc cB 0, rP g0 [(0, 0, nof)], L, 0, 0) 0 [(0, aR 0 0)] [] X := by
  subst hmc
  subst hms
  have ho : okp [] 1 := okp_n
  refine v_seg k103 3 (pc' := 5) (ls' := [(0, aR 0 0)]) (st' := [aR 0 0]) (X' := X) (cs' := []) rfl trivial ?_
  refine k_new k103 1 (0) (by decide +kernel) rfl rfl rfl rfl (by decide +kernel) rfl ?_
  refine v_seg k103 1 (pc' := 9) (ls' := [(0, aR 0 0)]) (st' := [aR 1 0, aR 1 0, aR 0 0]) (X' := X) (cs' := []) rfl trivial ?_
  refine k_callN k103 (st := [aR 1 0, aR 0 0]) rfl (ct16 (okp_c ho rfl rfl) (by decide +kernel) (by decide +kernel)) rfl rfl rfl rfl rfl ?_
  refine k_putF k103 rfl rfl rfl (by decide +kernel) (by decide +kernel) rfl rfl rfl (fun _ => rfl) (fun _ => rfl) ?_
  refine v_seg k103 1 (pc' := 16) (ls' := [(0, aR 0 0)]) (st' := [aR 0 0]) (X' := (km16 X)) (cs' := []) rfl trivial ?_
  refine k_new k103 3 (0) (by decide +kernel) rfl rfl rfl rfl (by decide +kernel) rfl ?_
  refine v_seg k103 3 (pc' := 24) (ls' := [(0, aR 0 0)]) (st' := [aR 1 0, aR 3 0, aR 3 0, aR 0 0]) (X' := (km16 X)) (cs' := []) rfl trivial ?_
  refine k_call k103 (st := [aR 3 0, aR 0 0]) rfl (ct58 (okp_c ho rfl rfl) (by decide +kernel) (by decide +kernel)) rfl rfl rfl rfl rfl ?_
  refine k_putF k103 rfl rfl rfl (by decide +kernel) (by decide +kernel) rfl rfl rfl (fun _ => rfl) (fun _ => rfl) ?_
  refine v_seg k103 2 (pc' := 33) (ls' := [(0, aR 0 0)]) (st' := [aI (64 : Int32), aR 0 0]) (X' := (km58 (km16 X))) (cs' := []) rfl trivial ?_
  refine k_arB (m := 9) k103 20 (0) (by decide +kernel) (okp_c ho rfl rfl) rfl rfl rfl rfl (fun _ _ => rfl) rfl rfl (by decide +kernel) rfl ?_
  refine k_putF k103 rfl rfl rfl (by decide +kernel) (by decide +kernel) rfl rfl rfl (fun _ => rfl) (fun _ => rfl) ?_
  refine v_seg k103 6 (pc' := 48) (ls' := [(0, aR 0 0)]) (st' := []) (X' := (uI (uI (km58 (km16 X)) 0 0 3 (0 : Int32)) 0 0 4 (0 : Int32))) (cs' := [allw 0 0, allw 0 0]) rfl ⟨rfl, rfl⟩ ?_
  refine v_seg k103 4 (pc' := 54) (ls' := [(0, aR 0 0)]) (st' := [aR 0 0]) (X' := (uI (uI (uI (km58 (km16 X)) 0 0 3 (0 : Int32)) 0 0 4 (0 : Int32)) 0 0 5 (-1 : Int32))) (cs' := [allw 0 0]) rfl rfl ?_
  refine k_new k103 5 (1) (by decide +kernel) rfl rfl rfl rfl (by decide +kernel) rfl ?_
  refine v_seg k103 1 (pc' := 58) (ls' := [(0, aR 0 0)]) (st' := [aR 5 1, aR 5 1, aR 0 0]) (X' := (uI (uI (uI (km58 (km16 X)) 0 0 3 (0 : Int32)) 0 0 4 (0 : Int32)) 0 0 5 (-1 : Int32))) (cs' := []) rfl trivial ?_
  refine k_call k103 (st := [aR 5 1, aR 0 0]) rfl (ct51 (okp_c ho rfl rfl) (by decide +kernel) (by decide +kernel)) rfl rfl rfl rfl rfl ?_
  refine k_put k103 rfl rfl rfl (by decide +kernel) rfl rfl (fun _ => rfl) (fun _ => rfl) ?_
  refine v_seg k103 1 (pc' := 65) (ls' := [(0, aR 0 0)]) (st' := [aR 0 0]) (X' := (km51 1 (uI (uI (uI (km58 (km16 X)) 0 0 3 (0 : Int32)) 0 0 4 (0 : Int32)) 0 0 5 (-1 : Int32)))) (cs' := []) rfl trivial ?_
  refine k_new k103 5 (2) (by decide +kernel) rfl rfl rfl rfl (by decide +kernel) rfl ?_
  refine v_seg k103 1 (pc' := 69) (ls' := [(0, aR 0 0)]) (st' := [aR 5 2, aR 5 2, aR 0 0]) (X' := (km51 1 (uI (uI (uI (km58 (km16 X)) 0 0 3 (0 : Int32)) 0 0 4 (0 : Int32)) 0 0 5 (-1 : Int32)))) (cs' := []) rfl trivial ?_
  refine k_call k103 (st := [aR 5 2, aR 0 0]) rfl (ct51 (okp_c ho rfl rfl) (by decide +kernel) (by decide +kernel)) rfl rfl rfl rfl rfl ?_
  refine k_put k103 rfl rfl rfl (by decide +kernel) rfl rfl (fun _ => rfl) (fun _ => rfl) ?_
  refine v_seg k103 1 (pc' := 76) (ls' := [(0, aR 0 0)]) (st' := [aR 0 0]) (X' := (km51 2 (km51 1 (uI (uI (uI (km58 (km16 X)) 0 0 3 (0 : Int32)) 0 0 4 (0 : Int32)) 0 0 5 (-1 : Int32))))) (cs' := []) rfl trivial ?_
  refine k_new k103 21 (0) (by decide +kernel) rfl rfl rfl rfl (by decide +kernel) rfl ?_
  refine v_seg k103 3 (pc' := 84) (ls' := [(0, aR 0 0)]) (st' := [aR 5 1, aR 21 0, aR 21 0, aR 0 0]) (X' := (km51 2 (km51 1 (uI (uI (uI (km58 (km16 X)) 0 0 3 (0 : Int32)) 0 0 4 (0 : Int32)) 0 0 5 (-1 : Int32))))) (cs' := []) rfl trivial ?_
  refine k_call k103 (st := [aR 21 0, aR 0 0]) rfl (ct70 (okp_c ho rfl rfl) (by decide +kernel) (by decide +kernel) rfl) rfl rfl rfl rfl rfl ?_
  refine k_putF k103 rfl rfl rfl (by decide +kernel) (by decide +kernel) rfl rfl rfl (fun _ => rfl) (fun _ => rfl) ?_
  refine v_seg k103 1 (pc' := 91) (ls' := [(0, aR 0 0)]) (st' := [aR 0 0]) (X' := (km70 0 (km51 2 (km51 1 (uI (uI (uI (km58 (km16 X)) 0 0 3 (0 : Int32)) 0 0 4 (0 : Int32)) 0 0 5 (-1 : Int32)))))) (cs' := []) rfl trivial ?_
  refine k_new k103 21 (1) (by decide +kernel) rfl rfl rfl rfl (by decide +kernel) rfl ?_
  refine v_seg k103 3 (pc' := 99) (ls' := [(0, aR 0 0)]) (st' := [aR 5 1, aR 21 1, aR 21 1, aR 0 0]) (X' := (km70 0 (km51 2 (km51 1 (uI (uI (uI (km58 (km16 X)) 0 0 3 (0 : Int32)) 0 0 4 (0 : Int32)) 0 0 5 (-1 : Int32)))))) (cs' := []) rfl trivial ?_
  refine k_call k103 (st := [aR 21 1, aR 0 0]) rfl (ct70 (okp_c ho rfl rfl) (by decide +kernel) (by decide +kernel) rfl) rfl rfl rfl rfl rfl ?_
  refine k_putF k103 rfl rfl rfl (by decide +kernel) (by decide +kernel) rfl rfl rfl (fun _ => rfl) (fun _ => rfl) ?_
  refine v_seg k103 1 (pc' := 106) (ls' := [(0, aR 0 0)]) (st' := [aR 0 0]) (X' := (km70 1 (km70 0 (km51 2 (km51 1 (uI (uI (uI (km58 (km16 X)) 0 0 3 (0 : Int32)) 0 0 4 (0 : Int32)) 0 0 5 (-1 : Int32))))))) (cs' := []) rfl trivial ?_
  refine k_new k103 21 (2) (by decide +kernel) rfl rfl rfl rfl (by decide +kernel) rfl ?_
  refine v_seg k103 3 (pc' := 114) (ls' := [(0, aR 0 0)]) (st' := [aR 5 1, aR 21 2, aR 21 2, aR 0 0]) (X' := (km70 1 (km70 0 (km51 2 (km51 1 (uI (uI (uI (km58 (km16 X)) 0 0 3 (0 : Int32)) 0 0 4 (0 : Int32)) 0 0 5 (-1 : Int32))))))) (cs' := []) rfl trivial ?_
  refine k_call k103 (st := [aR 21 2, aR 0 0]) rfl (ct70 (okp_c ho rfl rfl) (by decide +kernel) (by decide +kernel) rfl) rfl rfl rfl rfl rfl ?_
  refine k_putF k103 rfl rfl rfl (by decide +kernel) (by decide +kernel) rfl rfl rfl (fun _ => rfl) (fun _ => rfl) ?_
  refine v_seg k103 4 (pc' := 126) (ls' := [(0, aR 0 0)]) (st' := [aR 0 0]) (X' := (uI (km70 2 (km70 1 (km70 0 (km51 2 (km51 1 (uI (uI (uI (km58 (km16 X)) 0 0 3 (0 : Int32)) 0 0 4 (0 : Int32)) 0 0 5 (-1 : Int32))))))) 0 0 11 (0 : Int32))) (cs' := [allw 0 0, (0 : Int32) = 0 ∨ (0 : Int32) = 1]) rfl ⟨rfl, Or.inl rfl⟩ ?_
  refine k_new k103 37 (0) (by decide +kernel) rfl rfl rfl rfl (by decide +kernel) rfl ?_
  refine v_seg k103 3 (pc' := 134) (ls' := [(0, aR 0 0)]) (st' := [aR 5 1, aR 37 0, aR 37 0, aR 0 0]) (X' := (uI (km70 2 (km70 1 (km70 0 (km51 2 (km51 1 (uI (uI (uI (km58 (km16 X)) 0 0 3 (0 : Int32)) 0 0 4 (0 : Int32)) 0 0 5 (-1 : Int32))))))) 0 0 11 (0 : Int32))) (cs' := []) rfl trivial ?_
  refine k_call k103 (st := [aR 37 0, aR 0 0]) rfl (ct13 (okp_c ho rfl rfl)  ) rfl rfl rfl rfl rfl ?_
  refine k_putF k103 rfl rfl rfl (by decide +kernel) (by decide +kernel) rfl rfl rfl (fun _ => rfl) (fun _ => rfl) ?_
  refine v_seg k103 1 (pc' := 141) (ls' := [(0, aR 0 0)]) (st' := [aR 0 0]) (X' := (km13 (uI (km70 2 (km70 1 (km70 0 (km51 2 (km51 1 (uI (uI (uI (km58 (km16 X)) 0 0 3 (0 : Int32)) 0 0 4 (0 : Int32)) 0 0 5 (-1 : Int32))))))) 0 0 11 (0 : Int32)))) (cs' := []) rfl trivial ?_
  refine k_new k103 39 (0) (by decide +kernel) rfl rfl rfl rfl (by decide +kernel) rfl ?_
  refine v_seg k103 1 (pc' := 145) (ls' := [(0, aR 0 0)]) (st' := [aR 39 0, aR 39 0, aR 0 0]) (X' := (km13 (uI (km70 2 (km70 1 (km70 0 (km51 2 (km51 1 (uI (uI (uI (km58 (km16 X)) 0 0 3 (0 : Int32)) 0 0 4 (0 : Int32)) 0 0 5 (-1 : Int32))))))) 0 0 11 (0 : Int32)))) (cs' := []) rfl trivial ?_
  refine k_callN k103 (st := [aR 39 0, aR 0 0]) rfl (ct24 (okp_c ho rfl rfl) (by decide +kernel) (by decide +kernel)) rfl rfl rfl rfl rfl ?_
  refine k_putF k103 rfl rfl rfl (by decide +kernel) (by decide +kernel) rfl rfl rfl (fun _ => rfl) (fun _ => rfl) ?_
  refine v_seg k103 2 (pc' := 153) (ls' := [(0, aR 0 0)]) (st' := [aI (5 : Int32), aR 0 0]) (X' := (km24 (km13 (uI (km70 2 (km70 1 (km70 0 (km51 2 (km51 1 (uI (uI (uI (km58 (km16 X)) 0 0 3 (0 : Int32)) 0 0 4 (0 : Int32)) 0 0 5 (-1 : Int32))))))) 0 0 11 (0 : Int32))))) (cs' := []) rfl trivial ?_
  refine k_arI (m := 9) k103 46 (0) (by decide +kernel) (okp_c ho rfl rfl) rfl rfl rfl rfl (fun _ _ => rfl) rfl rfl (by decide +kernel) rfl ?_
  refine k_putF k103 rfl rfl rfl (by decide +kernel) (by decide +kernel) rfl rfl rfl (fun _ => rfl) (fun _ => rfl) ?_
  refine v_seg k103 2 (pc' := 160) (ls' := [(0, aR 0 0)]) (st' := [aI (5 : Int32), aR 0 0]) (X' := (km24 (km13 (uI (km70 2 (km70 1 (km70 0 (km51 2 (km51 1 (uI (uI (uI (km58 (km16 X)) 0 0 3 (0 : Int32)) 0 0 4 (0 : Int32)) 0 0 5 (-1 : Int32))))))) 0 0 11 (0 : Int32))))) (cs' := []) rfl trivial ?_
  refine k_arI (m := 9) k103 47 (0) (by decide +kernel) (okp_c ho rfl rfl) rfl rfl rfl rfl (fun _ _ => rfl) rfl rfl (by decide +kernel) rfl ?_
  refine k_putF k103 rfl rfl rfl (by decide +kernel) (by decide +kernel) rfl rfl rfl (fun _ => rfl) (fun _ => rfl) ?_
  refine k_pop (m := 1) (n := 16) ho rfl rfl rfl (fun j hj => match j, hj with | 0, _ => rfl | 1, _ => rfl | 2, _ => rfl | 3, _ => rfl | 4, _ => rfl | 5, _ => rfl | 6, _ => rfl | 7, _ => rfl | 8, _ => rfl | 9, _ => rfl | 10, _ => rfl | 11, _ => rfl | 12, _ => rfl | 13, _ => rfl | 14, _ => rfl | 15, _ => rfl | (j + 16), hj => absurd hj (by omega)) ?_
  exact kk
