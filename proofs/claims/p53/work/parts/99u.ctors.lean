/-! the constructors of the class (printed by wip/whole/e/genk.py) -/
theorem al_c {P : Nat → Prop} {k : Nat} {ks : List Nat} (h1 : P k) (h2 : ∀ q ∈ ks, P q) : ∀ q ∈ k :: ks, P q := List.forall_mem_cons.mpr ⟨h1, h2⟩
theorem k_mna {y d mc ms : Nat} {z0 : Zz} {X0 : Mm} {QR : Option Av → Zz → Mm → Prop} {QX : Nat → Zz → Mm → Prop} {pc : Nat} {ls : Lo} {st : List Av} {X : Mm} {c g : Nat → Nat} {ps : List Pe} {L u v m' : Nat} (K : ∀ p, chk y p = true) {v9 x x2 : Int32} {a b c9 np kO n m iO : Nat} (ks : List Nat) (hi : c kO = iO) (ho : okp ps m') (ht : tb y pc = (93, v9, a, b, c9, np)) (hk : shp kO = (1, 4, n)) (hkO : Nat.beq kO 68 = false) (hk9 : Nat.ble m' (lev kO) = true) (hkl : ks.length = n) (hcl : Cond.classLink (RN (cid y)) a "[[I" ∈ TT) (hx : x = nI n) (hx2 : x2 = nI m) (hm : ∀ k ∈ ks, (shp k = (1, 0, m) ∧ Nat.beq k 68 = false ∧ k ≠ 66) ∧ Nat.ble m' (lev k) = true ∧ ∀ i j, sr g k i j = none) (hnm : (Nat.ble n 1000 && Nat.ble m 1000) = true) (h66 : c 66 = 0) (hO : kO ∉ ks)
    (hr : ∀ j, j < n → sr g kO iO j = rwI c ks j) (hroom : (Nat.ble (u + (1 + n)) mc && Nat.ble (v + (n + n * m)) ms) = true)
    (kk : V y [] d mc ms allw z0 X0 QR QX (rwC c (ks ++ [kO]), rP g ps, L, u + (1 + n), v + (n + n * m)) np ls (aR kO iO :: st) X) : V y [] d mc ms allw z0 X0 QR QX (c, rP g ps, L, u, v) pc ls (aI x2 :: aI x :: st) X := by
  subst hi
  exact v_mna K ks ht hk hkO hkl hcl hx hx2 (fun k hk => ⟨(hm k hk).1, fun i j => (rP_out ho (hm k hk).2.1 i j).trans ((hm k hk).2.2 i j)⟩) hnm h66 hO (fun j hj => (rP_out ho hk9 _ j).trans (hr j hj)) hroom kk
def kc33 (c : Nat → Nat) : Nat → Nat := (rwC c [14, 15, 16, 17, 18, 19, 13])
def km33 (i : Nat) (X : Mm) : Mm := (uI (uI X 12 i 1 (0 : Int32)) 12 i 2 (-1 : Int32))
abbrev Hy33 (c : Nat → Nat) (i : Nat) : Prop := c 14 = i ∧ c 15 = i ∧ c 16 = i ∧ c 17 = i ∧ c 18 = i ∧ c 19 = i ∧ c 13 = i
/-- BallotBus$Requests.<init> -/
theorem ct33 {g c : Nat → Nat} {ps : List Pe} {L i : Nat} {X : Mm} (ho : okp ps 5) (h : Hy33 c i) (h66 : c 66 = 0) : Kc 33 4 7 246 L c (rP g ((12, i, nof) :: ps)) X [aR 12 i] (kc33 c) (rP g ps) (km33 i X) := by
  obtain ⟨h14, h15, h16, h17, h18, h19, h13⟩ := h
  refine k_of [(0, aR 12 i)] rfl rfl rfl (fun z0 X0 => ?_)
  refine v_seg k33 5 (pc' := 9) (ls' := [(0, aR 12 i)]) (st' := [aI (40 : Int32), aI (6 : Int32), aR 12 i]) (X' := X) (cs' := []) rfl trivial ?_
  refine k_mna (m' := 9) (kO := 13) (iO := i) k33 [14, 15, 16, 17, 18, 19] h13 (okp_c ho rfl rfl) rfl rfl rfl rfl rfl fx_clR rfl rfl (al_c ⟨⟨rfl, rfl, by decide⟩, rfl, fun _ _ => rfl⟩ (al_c ⟨⟨rfl, rfl, by decide⟩, rfl, fun _ _ => rfl⟩ (al_c ⟨⟨rfl, rfl, by decide⟩, rfl, fun _ _ => rfl⟩ (al_c ⟨⟨rfl, rfl, by decide⟩, rfl, fun _ _ => rfl⟩ (al_c ⟨⟨rfl, rfl, by decide⟩, rfl, fun _ _ => rfl⟩ (al_c ⟨⟨rfl, rfl, by decide⟩, rfl, fun _ _ => rfl⟩ (fun k hk => nomatch hk))))))) rfl h66 (by decide) (fun j hj => match j, hj with | 0, _ => congrArg (fun x => some (14, x)) h14.symm | 1, _ => congrArg (fun x => some (15, x)) h15.symm | 2, _ => congrArg (fun x => some (16, x)) h16.symm | 3, _ => congrArg (fun x => some (17, x)) h17.symm | 4, _ => congrArg (fun x => some (18, x)) h18.symm | 5, _ => congrArg (fun x => some (19, x)) h19.symm | (j + 6), hj => absurd hj (by omega)) rfl ?_
  refine k_putF k33 rfl rfl rfl (by decide +kernel) (by decide +kernel) rfl rfl rfl (fun _ => rfl) (fun _ => rfl) ?_
  refine v_seg k33 6 (pc' := 26) (ls' := [(0, aR 12 i)]) (st' := []) (X' := (uI (uI X 12 i 1 (0 : Int32)) 12 i 2 (-1 : Int32))) (cs' := [allw 12 i, allw 12 i]) rfl ⟨rfl, rfl⟩ ?_
  refine k_pop (m := 5) (n := 3) ho rfl rfl rfl (fun j hj => match j, hj with | 0, _ => rfl | 1, _ => rfl | 2, _ => rfl | (j + 3), hj => absurd hj (by omega)) ?_
  exact k_ret k33 rfl rfl rfl
def kc0 (c : Nat → Nat) : Nat → Nat := (inc (inc (inc (inc (inc (inc c 29) 30) 31) 32) 33) 34)
abbrev Hy0 (c : Nat → Nat) (i : Nat) : Prop := c 29 = i ∧ c 30 = i ∧ c 31 = i ∧ c 32 = i ∧ c 33 = i ∧ c 34 = i
/-- BallotBus$Accounts.<init> -/
theorem ct0 {g c : Nat → Nat} {ps : List Pe} {L i : Nat} {X : Mm} (ho : okp ps 5) (h : Hy0 c i) (h66 : c 66 = 0) : Kc 0 4 6 48 L c (rP g ((28, i, nof) :: ps)) X [aR 28 i] (kc0 c) (rP g ps) X := by
  obtain ⟨h29, h30, h31, h32, h33, h34⟩ := h
  refine k_of [(0, aR 28 i)] rfl rfl rfl (fun z0 X0 => ?_)
  refine v_seg k0 4 (pc' := 7) (ls' := [(0, aR 28 i)]) (st' := [aI (8 : Int32), aR 28 i]) (X' := X) (cs' := []) rfl trivial ?_
  refine k_arI (m := 9) k0 29 (i) h29 (okp_c ho rfl rfl) rfl rfl rfl rfl (fun _ _ => rfl) rfl rfl h66 rfl ?_
  refine k_putF k0 rfl rfl rfl (by decide +kernel) (by decide +kernel) rfl rfl rfl (fun _ => rfl) (fun _ => rfl) ?_
  refine v_seg k0 2 (pc' := 15) (ls' := [(0, aR 28 i)]) (st' := [aI (8 : Int32), aR 28 i]) (X' := X) (cs' := []) rfl trivial ?_
  refine k_arI (m := 9) k0 30 (i) h30 (okp_c ho rfl rfl) rfl rfl rfl rfl (fun _ _ => rfl) rfl rfl h66 rfl ?_
  refine k_putF k0 rfl rfl rfl (by decide +kernel) (by decide +kernel) rfl rfl rfl (fun _ => rfl) (fun _ => rfl) ?_
  refine v_seg k0 2 (pc' := 23) (ls' := [(0, aR 28 i)]) (st' := [aI (8 : Int32), aR 28 i]) (X' := X) (cs' := []) rfl trivial ?_
  refine k_arI (m := 9) k0 31 (i) h31 (okp_c ho rfl rfl) rfl rfl rfl rfl (fun _ _ => rfl) rfl rfl h66 rfl ?_
  refine k_putF k0 rfl rfl rfl (by decide +kernel) (by decide +kernel) rfl rfl rfl (fun _ => rfl) (fun _ => rfl) ?_
  refine v_seg k0 2 (pc' := 31) (ls' := [(0, aR 28 i)]) (st' := [aI (8 : Int32), aR 28 i]) (X' := X) (cs' := []) rfl trivial ?_
  refine k_arI (m := 9) k0 32 (i) h32 (okp_c ho rfl rfl) rfl rfl rfl rfl (fun _ _ => rfl) rfl rfl h66 rfl ?_
  refine k_putF k0 rfl rfl rfl (by decide +kernel) (by decide +kernel) rfl rfl rfl (fun _ => rfl) (fun _ => rfl) ?_
  refine v_seg k0 2 (pc' := 39) (ls' := [(0, aR 28 i)]) (st' := [aI (8 : Int32), aR 28 i]) (X' := X) (cs' := []) rfl trivial ?_
  refine k_arI (m := 9) k0 33 (i) h33 (okp_c ho rfl rfl) rfl rfl rfl rfl (fun _ _ => rfl) rfl rfl h66 rfl ?_
  refine k_putF k0 rfl rfl rfl (by decide +kernel) (by decide +kernel) rfl rfl rfl (fun _ => rfl) (fun _ => rfl) ?_
  refine v_seg k0 2 (pc' := 47) (ls' := [(0, aR 28 i)]) (st' := [aI (8 : Int32), aR 28 i]) (X' := X) (cs' := []) rfl trivial ?_
  refine k_arI (m := 9) k0 34 (i) h34 (okp_c ho rfl rfl) rfl rfl rfl rfl (fun _ _ => rfl) rfl rfl h66 rfl ?_
  refine k_putF k0 rfl rfl rfl (by decide +kernel) (by decide +kernel) rfl rfl rfl (fun _ => rfl) (fun _ => rfl) ?_
  refine k_pop (m := 5) (n := 6) ho rfl rfl rfl (fun j hj => match j, hj with | 0, _ => rfl | 1, _ => rfl | 2, _ => rfl | 3, _ => rfl | 4, _ => rfl | 5, _ => rfl | (j + 6), hj => absurd hj (by omega)) ?_
  exact k_ret k0 rfl rfl rfl
def kc8 (c : Nat → Nat) : Nat → Nat := (inc c 36)
def km8 (i : Nat) (X : Mm) : Mm := (uI (uI X 35 i 1 (0 : Int32)) 35 i 2 (0 : Int32))
abbrev Hy8 (c : Nat → Nat) (i : Nat) : Prop := c 36 = i
/-- BallotBus$AnswerLog.<init> -/
theorem ct8 {g c : Nat → Nat} {ps : List Pe} {L i : Nat} {X : Mm} (ho : okp ps 5) (h : Hy8 c i) (h66 : c 66 = 0) : Kc 8 4 1 360 L c (rP g ((35, i, nof) :: ps)) X [aR 35 i] (kc8 c) (rP g ps) (km8 i X) := by
  have h36 : c 36 = i := h
  refine k_of [(0, aR 35 i)] rfl rfl rfl (fun z0 X0 => ?_)
  refine v_seg k8 4 (pc' := 8) (ls' := [(0, aR 35 i)]) (st' := [aI (360 : Int32), aR 35 i]) (X' := X) (cs' := []) rfl trivial ?_
  refine k_arI (m := 9) k8 36 (i) h36 (okp_c ho rfl rfl) rfl rfl rfl rfl (fun _ _ => rfl) rfl rfl h66 rfl ?_
  refine k_putF k8 rfl rfl rfl (by decide +kernel) (by decide +kernel) rfl rfl rfl (fun _ => rfl) (fun _ => rfl) ?_
  refine v_seg k8 6 (pc' := 23) (ls' := [(0, aR 35 i)]) (st' := []) (X' := (uI (uI X 35 i 1 (0 : Int32)) 35 i 2 (0 : Int32))) (cs' := [allw 35 i, allw 35 i]) rfl ⟨rfl, rfl⟩ ?_
  refine k_pop (m := 5) (n := 3) ho rfl rfl rfl (fun j hj => match j, hj with | 0, _ => rfl | 1, _ => rfl | 2, _ => rfl | (j + 3), hj => absurd hj (by omega)) ?_
  exact k_ret k8 rfl rfl rfl
def km53 (i : Nat) (X : Mm) : Mm := uI (uI (uI (uI (uI X 11 i (ix (0 : Int32)) (3 : Int32)) 11 i (ix (1 : Int32)) (6 : Int32)) 11 i (ix (2 : Int32)) (10 : Int32)) 11 i (ix (3 : Int32)) (0 : Int32)) 11 i (ix (4 : Int32)) (3 : Int32)
/-- BallotBus$Setup.setDefaults -/
theorem ct53 {c : Nat → Nat} {R : Nat → Nat → Nat → Option (Nat × Nat)} {L i : Nat} {X : Mm} (hR : ∀ b, R 5 b 8 = some (11, b)) : Kc 53 4 0 0 L c R X [aR 5 i] c R (km53 i X) := by
  refine k_of [(0, aR 5 i)] rfl rfl rfl (fun z0 X0 => ?_)
  refine v_refs c (fun a b j => cond (Nat.beq a 5 && Nat.beq j 8) (some (11, b)) (R a b j)) rfl (fun k i j _ => ?_) ?_
  · show cond (Nat.beq k 5 && Nat.beq j 8) (some (11, i)) (R k i j) = R k i j
    cases h1 : Nat.beq k 5 with
    | false => rfl
    | true =>
      cases h2 : Nat.beq j 8 with
      | false => rfl
      | true =>
        rw [Nat.eq_of_beq_eq_true h1, Nat.eq_of_beq_eq_true h2, hR]
        rfl
  refine v_seg k53 5 (pc' := 7) (ls' := [(0, aR 5 i)]) (st' := []) (X' := (uI X 11 i (ix (0 : Int32)) (3 : Int32))) (cs' := [vp_in (0 : Int32) 5, allw 11 i]) rfl ⟨vin (by decide), rfl⟩ ?_
  refine v_seg k53 5 (pc' := 15) (ls' := [(0, aR 5 i)]) (st' := []) (X' := (uI (uI X 11 i (ix (0 : Int32)) (3 : Int32)) 11 i (ix (1 : Int32)) (6 : Int32))) (cs' := [vp_in (1 : Int32) 5, allw 11 i]) rfl ⟨vin (by decide), rfl⟩ ?_
  refine v_seg k53 5 (pc' := 23) (ls' := [(0, aR 5 i)]) (st' := []) (X' := (uI (uI (uI X 11 i (ix (0 : Int32)) (3 : Int32)) 11 i (ix (1 : Int32)) (6 : Int32)) 11 i (ix (2 : Int32)) (10 : Int32))) (cs' := [vp_in (2 : Int32) 5, allw 11 i]) rfl ⟨vin (by decide), rfl⟩ ?_
  refine v_seg k53 5 (pc' := 30) (ls' := [(0, aR 5 i)]) (st' := []) (X' := (uI (uI (uI (uI X 11 i (ix (0 : Int32)) (3 : Int32)) 11 i (ix (1 : Int32)) (6 : Int32)) 11 i (ix (2 : Int32)) (10 : Int32)) 11 i (ix (3 : Int32)) (0 : Int32))) (cs' := [vp_in (3 : Int32) 5, allw 11 i]) rfl ⟨vin (by decide), rfl⟩ ?_
  refine v_seg k53 5 (pc' := 37) (ls' := [(0, aR 5 i)]) (st' := []) (X' := (uI (uI (uI (uI (uI X 11 i (ix (0 : Int32)) (3 : Int32)) 11 i (ix (1 : Int32)) (6 : Int32)) 11 i (ix (2 : Int32)) (10 : Int32)) 11 i (ix (3 : Int32)) (0 : Int32)) 11 i (ix (4 : Int32)) (3 : Int32))) (cs' := [vp_in (4 : Int32) 5, allw 11 i]) rfl ⟨vin (by decide), rfl⟩ ?_
  refine v_refs c R rfl (fun k i j _ => ?_) ?_
  · show R k i j = cond (Nat.beq k 5 && Nat.beq j 8) (some (11, i)) (R k i j)
    cases h1 : Nat.beq k 5 with
    | false => rfl
    | true =>
      cases h2 : Nat.beq j 8 with
      | false => rfl
      | true =>
        rw [Nat.eq_of_beq_eq_true h1, Nat.eq_of_beq_eq_true h2, hR]
        rfl
  exact k_ret k53 rfl rfl rfl
def kc51 (c : Nat → Nat) : Nat → Nat := (kc33 (inc (inc (inc (inc (inc (inc (inc c 6) 7) 8) 9) 10) 11) 12))
def km51 (i : Nat) (X : Mm) : Mm := (km53 i (km33 i (uI (uI (uI X 5 i 0 (0 : Int32)) 5 i 3 (0 : Int32)) 5 i 7 (0 : Int32))))
abbrev Hy51 (c : Nat → Nat) (i : Nat) : Prop := c 6 = i ∧ c 7 = i ∧ c 8 = i ∧ c 9 = i ∧ c 10 = i ∧ c 11 = i ∧ c 12 = i ∧ c 14 = i ∧ c 15 = i ∧ c 16 = i ∧ c 17 = i ∧ c 18 = i ∧ c 19 = i ∧ c 13 = i
/-- BallotBus$Setup.<init> -/
theorem ct51 {g c : Nat → Nat} {ps : List Pe} {L i : Nat} {X : Mm} (ho : okp ps 4) (h : Hy51 c i) (h66 : c 66 = 0) : Kc 51 5 14 288 L c (rP g ((5, i, nof) :: ps)) X [aR 5 i] (kc51 c) (rP g ps) (km51 i X) := by
  obtain ⟨h6, h7, h8, h9, h10, h11, h12, h14, h15, h16, h17, h18, h19, h13⟩ := h
  refine k_of [(0, aR 5 i)] rfl rfl rfl (fun z0 X0 => ?_)
  refine v_seg k51 5 (pc' := 9) (ls' := [(0, aR 5 i)]) (st' := []) (X' := (uI X 5 i 0 (0 : Int32))) (cs' := [allw 5 i]) rfl rfl ?_
  refine v_seg k51 2 (pc' := 11) (ls' := [(0, aR 5 i)]) (st' := [aI (5 : Int32), aR 5 i]) (X' := (uI X 5 i 0 (0 : Int32))) (cs' := []) rfl trivial ?_
  refine k_arL (m := 9) k51 6 (i) h6 (okp_c ho rfl rfl) rfl rfl rfl rfl (fun _ _ => rfl) rfl rfl (n66 h66) rfl ?_
  refine k_putF k51 rfl rfl rfl (by decide +kernel) (by decide +kernel) rfl rfl rfl (fun _ => rfl) (fun _ => rfl) ?_
  refine v_seg k51 2 (pc' := 18) (ls' := [(0, aR 5 i)]) (st' := [aI (5 : Int32), aR 5 i]) (X' := (uI X 5 i 0 (0 : Int32))) (cs' := []) rfl trivial ?_
  refine k_arI (m := 9) k51 7 (i) h7 (okp_c ho rfl rfl) rfl rfl rfl rfl (fun _ _ => rfl) rfl rfl h66 rfl ?_
  refine k_putF k51 rfl rfl rfl (by decide +kernel) (by decide +kernel) rfl rfl rfl (fun _ => rfl) (fun _ => rfl) ?_
  refine v_seg k51 5 (pc' := 31) (ls' := [(0, aR 5 i)]) (st' := [aI (8 : Int32), aR 5 i]) (X' := (uI (uI X 5 i 0 (0 : Int32)) 5 i 3 (0 : Int32))) (cs' := [allw 5 i]) rfl rfl ?_
  refine k_arL (m := 9) k51 8 (i) h8 (okp_c ho rfl rfl) rfl rfl rfl rfl (fun _ _ => rfl) rfl rfl (n66 h66) rfl ?_
  refine k_putF k51 rfl rfl rfl (by decide +kernel) (by decide +kernel) rfl rfl rfl (fun _ => rfl) (fun _ => rfl) ?_
  refine v_seg k51 2 (pc' := 39) (ls' := [(0, aR 5 i)]) (st' := [aI (8 : Int32), aR 5 i]) (X' := (uI (uI X 5 i 0 (0 : Int32)) 5 i 3 (0 : Int32))) (cs' := []) rfl trivial ?_
  refine k_arI (m := 9) k51 9 (i) h9 (okp_c ho rfl rfl) rfl rfl rfl rfl (fun _ _ => rfl) rfl rfl h66 rfl ?_
  refine k_putF k51 rfl rfl rfl (by decide +kernel) (by decide +kernel) rfl rfl rfl (fun _ => rfl) (fun _ => rfl) ?_
  refine v_seg k51 2 (pc' := 47) (ls' := [(0, aR 5 i)]) (st' := [aI (8 : Int32), aR 5 i]) (X' := (uI (uI X 5 i 0 (0 : Int32)) 5 i 3 (0 : Int32))) (cs' := []) rfl trivial ?_
  refine k_arI (m := 9) k51 10 (i) h10 (okp_c ho rfl rfl) rfl rfl rfl rfl (fun _ _ => rfl) rfl rfl h66 rfl ?_
  refine k_putF k51 rfl rfl rfl (by decide +kernel) (by decide +kernel) rfl rfl rfl (fun _ => rfl) (fun _ => rfl) ?_
  refine v_seg k51 5 (pc' := 59) (ls' := [(0, aR 5 i)]) (st' := [aI (5 : Int32), aR 5 i]) (X' := (uI (uI (uI X 5 i 0 (0 : Int32)) 5 i 3 (0 : Int32)) 5 i 7 (0 : Int32))) (cs' := [allw 5 i]) rfl rfl ?_
  refine k_arI (m := 9) k51 11 (i) h11 (okp_c ho rfl rfl) rfl rfl rfl rfl (fun _ _ => rfl) rfl rfl h66 rfl ?_
  refine k_putF k51 rfl rfl rfl (by decide +kernel) (by decide +kernel) rfl rfl rfl (fun _ => rfl) (fun _ => rfl) ?_
  refine v_seg k51 1 (pc' := 65) (ls' := [(0, aR 5 i)]) (st' := [aR 5 i]) (X' := (uI (uI (uI X 5 i 0 (0 : Int32)) 5 i 3 (0 : Int32)) 5 i 7 (0 : Int32))) (cs' := []) rfl trivial ?_
  refine k_new k51 12 (i) h12 rfl rfl rfl rfl h66 rfl ?_
  refine v_seg k51 1 (pc' := 69) (ls' := [(0, aR 5 i)]) (st' := [aR 12 i, aR 12 i, aR 5 i]) (X' := (uI (uI (uI X 5 i 0 (0 : Int32)) 5 i 3 (0 : Int32)) 5 i 7 (0 : Int32))) (cs' := []) rfl trivial ?_
  refine k_callN k51 (st := [aR 12 i, aR 5 i]) rfl (ct33 (okp_c ho rfl rfl) ⟨h14, h15, h16, h17, h18, h19, h13⟩ h66) rfl rfl rfl rfl rfl ?_
  refine k_putF k51 rfl rfl rfl (by decide +kernel) (by decide +kernel) rfl rfl rfl (fun _ => rfl) (fun _ => rfl) ?_
  refine v_seg k51 1 (pc' := 76) (ls' := [(0, aR 5 i)]) (st' := [aR 5 i]) (X' := (km33 i (uI (uI (uI X 5 i 0 (0 : Int32)) 5 i 3 (0 : Int32)) 5 i 7 (0 : Int32)))) (cs' := []) rfl trivial ?_
  refine k_pop (m := 4) (n := 10) ho rfl rfl rfl (fun j hj => match j, hj with | 0, _ => rfl | 1, _ => rfl | 2, _ => rfl | 3, _ => rfl | 4, _ => rfl | 5, _ => rfl | 6, _ => rfl | 7, _ => rfl | 8, _ => rfl | 9, _ => rfl | (j + 10), hj => absurd hj (by omega)) ?_
  refine k_callV k51 (st := []) rfl (ct53 (fun b => rP_out ho rfl b 8)) rfl rfl rfl rfl rfl rfl rfl rfl ?_
  exact k_ret k51 rfl rfl rfl
def kc70 (c : Nat → Nat) : Nat → Nat := (kc8 (inc (kc33 (inc (kc0 (inc (rwC (inc (inc (inc (inc c 22) 23) 24) 25) [27, 27, 27, 27, 27, 27, 27, 27, 26]) 28)) 12)) 35))
def km70 (i : Nat) (X : Mm) : Mm := (km8 i (km33 (i + 3) (uI (uI (uI (uI (uI (uI (uI (uI X 21 i 1 (0 : Int32)) 21 i 2 (0 : Int32)) 21 i 3 (0 : Int32)) 21 i 4 (0 : Int32)) 21 i 5 (0 : Int32)) 21 i 6 (0 : Int32)) 21 i 7 (0 : Int32)) 21 i 8 (0 : Int32))))
abbrev Hy70 (c : Nat → Nat) (i : Nat) : Prop := c 22 = i ∧ c 23 = i ∧ c 24 = i ∧ c 25 = i ∧ c 27 = 8 * i ∧ c 26 = i ∧ c 28 = i ∧ c 29 = i ∧ c 30 = i ∧ c 31 = i ∧ c 32 = i ∧ c 33 = i ∧ c 34 = i ∧ c 12 = i + 3 ∧ c 14 = i + 3 ∧ c 15 = i + 3 ∧ c 16 = i + 3 ∧ c 17 = i + 3 ∧ c 18 = i + 3 ∧ c 19 = i + 3 ∧ c 13 = i + 3 ∧ c 35 = i ∧ c 36 = i
/-- BallotBus$State.<init> -/
theorem ct70 {g c : Nat → Nat} {ps : List Pe} {L i s : Nat} {X : Mm} (ho : okp ps 4) (h : Hy70 c i) (h66 : c 66 = 0) (hg : g (i + 3) = s) : Kc 70 5 30 734 L c (rP g ((21, i, nof) :: ps)) X [aR 21 i, aR 5 s] (kc70 c) (rP g ps) (km70 i X) := by
  obtain ⟨h22, h23, h24, h25, h27, h26, h28, h29, h30, h31, h32, h33, h34, h12, h14, h15, h16, h17, h18, h19, h13, h35, h36⟩ := h
  refine k_of [(0, aR 21 i), (1, aR 5 s)] rfl rfl rfl (fun z0 X0 => ?_)
  refine v_seg k70 5 (pc' := 9) (ls' := [(0, aR 21 i), (1, aR 5 s)]) (st' := []) (X' := (uI X 21 i 1 (0 : Int32))) (cs' := [allw 21 i]) rfl rfl ?_
  refine v_seg k70 6 (pc' := 19) (ls' := [(0, aR 21 i), (1, aR 5 s)]) (st' := []) (X' := (uI (uI (uI X 21 i 1 (0 : Int32)) 21 i 2 (0 : Int32)) 21 i 3 (0 : Int32))) (cs' := [allw 21 i, allw 21 i]) rfl ⟨rfl, rfl⟩ ?_
  refine v_seg k70 6 (pc' := 29) (ls' := [(0, aR 21 i), (1, aR 5 s)]) (st' := []) (X' := (uI (uI (uI (uI (uI X 21 i 1 (0 : Int32)) 21 i 2 (0 : Int32)) 21 i 3 (0 : Int32)) 21 i 4 (0 : Int32)) 21 i 5 (0 : Int32))) (cs' := [allw 21 i, (0 : Int32) = 0 ∨ (0 : Int32) = 1, allw 21 i]) rfl ⟨rfl, ⟨Or.inl rfl, rfl⟩⟩ ?_
  refine v_seg k70 6 (pc' := 39) (ls' := [(0, aR 21 i), (1, aR 5 s)]) (st' := []) (X' := (uI (uI (uI (uI (uI (uI (uI X 21 i 1 (0 : Int32)) 21 i 2 (0 : Int32)) 21 i 3 (0 : Int32)) 21 i 4 (0 : Int32)) 21 i 5 (0 : Int32)) 21 i 6 (0 : Int32)) 21 i 7 (0 : Int32))) (cs' := [allw 21 i, allw 21 i]) rfl ⟨rfl, rfl⟩ ?_
  refine v_seg k70 5 (pc' := 46) (ls' := [(0, aR 21 i), (1, aR 5 s)]) (st' := [aI (5 : Int32), aR 21 i]) (X' := (uI (uI (uI (uI (uI (uI (uI (uI X 21 i 1 (0 : Int32)) 21 i 2 (0 : Int32)) 21 i 3 (0 : Int32)) 21 i 4 (0 : Int32)) 21 i 5 (0 : Int32)) 21 i 6 (0 : Int32)) 21 i 7 (0 : Int32)) 21 i 8 (0 : Int32))) (cs' := [allw 21 i]) rfl rfl ?_
  refine k_arI (m := 9) k70 22 (i) h22 (okp_c ho rfl rfl) rfl rfl rfl rfl (fun _ _ => rfl) rfl rfl h66 rfl ?_
  refine k_putF k70 rfl rfl rfl (by decide +kernel) (by decide +kernel) rfl rfl rfl (fun _ => rfl) (fun _ => rfl) ?_
  refine v_seg k70 2 (pc' := 53) (ls' := [(0, aR 21 i), (1, aR 5 s)]) (st' := [aI (5 : Int32), aR 21 i]) (X' := (uI (uI (uI (uI (uI (uI (uI (uI X 21 i 1 (0 : Int32)) 21 i 2 (0 : Int32)) 21 i 3 (0 : Int32)) 21 i 4 (0 : Int32)) 21 i 5 (0 : Int32)) 21 i 6 (0 : Int32)) 21 i 7 (0 : Int32)) 21 i 8 (0 : Int32))) (cs' := []) rfl trivial ?_
  refine k_arI (m := 9) k70 23 (i) h23 (okp_c ho rfl rfl) rfl rfl rfl rfl (fun _ _ => rfl) rfl rfl h66 rfl ?_
  refine k_putF k70 rfl rfl rfl (by decide +kernel) (by decide +kernel) rfl rfl rfl (fun _ => rfl) (fun _ => rfl) ?_
  refine v_seg k70 2 (pc' := 60) (ls' := [(0, aR 21 i), (1, aR 5 s)]) (st' := [aI (5 : Int32), aR 21 i]) (X' := (uI (uI (uI (uI (uI (uI (uI (uI X 21 i 1 (0 : Int32)) 21 i 2 (0 : Int32)) 21 i 3 (0 : Int32)) 21 i 4 (0 : Int32)) 21 i 5 (0 : Int32)) 21 i 6 (0 : Int32)) 21 i 7 (0 : Int32)) 21 i 8 (0 : Int32))) (cs' := []) rfl trivial ?_
  refine k_arI (m := 9) k70 24 (i) h24 (okp_c ho rfl rfl) rfl rfl rfl rfl (fun _ _ => rfl) rfl rfl h66 rfl ?_
  refine k_putF k70 rfl rfl rfl (by decide +kernel) (by decide +kernel) rfl rfl rfl (fun _ => rfl) (fun _ => rfl) ?_
  refine v_seg k70 2 (pc' := 67) (ls' := [(0, aR 21 i), (1, aR 5 s)]) (st' := [aI (5 : Int32), aR 21 i]) (X' := (uI (uI (uI (uI (uI (uI (uI (uI X 21 i 1 (0 : Int32)) 21 i 2 (0 : Int32)) 21 i 3 (0 : Int32)) 21 i 4 (0 : Int32)) 21 i 5 (0 : Int32)) 21 i 6 (0 : Int32)) 21 i 7 (0 : Int32)) 21 i 8 (0 : Int32))) (cs' := []) rfl trivial ?_
  refine k_arL (m := 9) k70 25 (i) h25 (okp_c ho rfl rfl) rfl rfl rfl rfl (fun _ _ => rfl) rfl rfl (n66 h66) rfl ?_
  refine k_putF k70 rfl rfl rfl (by decide +kernel) (by decide +kernel) rfl rfl rfl (fun _ => rfl) (fun _ => rfl) ?_
  refine v_seg k70 3 (pc' := 76) (ls' := [(0, aR 21 i), (1, aR 5 s)]) (st' := [aI (5 : Int32), aI (8 : Int32), aR 21 i]) (X' := (uI (uI (uI (uI (uI (uI (uI (uI X 21 i 1 (0 : Int32)) 21 i 2 (0 : Int32)) 21 i 3 (0 : Int32)) 21 i 4 (0 : Int32)) 21 i 5 (0 : Int32)) 21 i 6 (0 : Int32)) 21 i 7 (0 : Int32)) 21 i 8 (0 : Int32))) (cs' := []) rfl trivial ?_
  refine k_mna (m' := 9) (kO := 26) (iO := i) k70 [27, 27, 27, 27, 27, 27, 27, 27] h26 (okp_c ho rfl rfl) rfl rfl rfl rfl rfl fx_clS rfl rfl (al_c ⟨⟨rfl, rfl, by decide⟩, rfl, fun _ _ => rfl⟩ (al_c ⟨⟨rfl, rfl, by decide⟩, rfl, fun _ _ => rfl⟩ (al_c ⟨⟨rfl, rfl, by decide⟩, rfl, fun _ _ => rfl⟩ (al_c ⟨⟨rfl, rfl, by decide⟩, rfl, fun _ _ => rfl⟩ (al_c ⟨⟨rfl, rfl, by decide⟩, rfl, fun _ _ => rfl⟩ (al_c ⟨⟨rfl, rfl, by decide⟩, rfl, fun _ _ => rfl⟩ (al_c ⟨⟨rfl, rfl, by decide⟩, rfl, fun _ _ => rfl⟩ (al_c ⟨⟨rfl, rfl, by decide⟩, rfl, fun _ _ => rfl⟩ (fun k hk => nomatch hk))))))))) rfl h66 (by decide) (fun j hj => match j, hj with | 0, _ => congrArg (fun x => some (27, x + 0)) h27.symm | 1, _ => congrArg (fun x => some (27, x + 1)) h27.symm | 2, _ => congrArg (fun x => some (27, x + 2)) h27.symm | 3, _ => congrArg (fun x => some (27, x + 3)) h27.symm | 4, _ => congrArg (fun x => some (27, x + 4)) h27.symm | 5, _ => congrArg (fun x => some (27, x + 5)) h27.symm | 6, _ => congrArg (fun x => some (27, x + 6)) h27.symm | 7, _ => congrArg (fun x => some (27, x + 7)) h27.symm | (j + 8), hj => absurd hj (by omega)) rfl ?_
  refine k_putF k70 rfl rfl rfl (by decide +kernel) (by decide +kernel) rfl rfl rfl (fun _ => rfl) (fun _ => rfl) ?_
  refine v_seg k70 1 (pc' := 84) (ls' := [(0, aR 21 i), (1, aR 5 s)]) (st' := [aR 21 i]) (X' := (uI (uI (uI (uI (uI (uI (uI (uI X 21 i 1 (0 : Int32)) 21 i 2 (0 : Int32)) 21 i 3 (0 : Int32)) 21 i 4 (0 : Int32)) 21 i 5 (0 : Int32)) 21 i 6 (0 : Int32)) 21 i 7 (0 : Int32)) 21 i 8 (0 : Int32))) (cs' := []) rfl trivial ?_
  refine k_new k70 28 (i) h28 rfl rfl rfl rfl h66 rfl ?_
  refine v_seg k70 1 (pc' := 88) (ls' := [(0, aR 21 i), (1, aR 5 s)]) (st' := [aR 28 i, aR 28 i, aR 21 i]) (X' := (uI (uI (uI (uI (uI (uI (uI (uI X 21 i 1 (0 : Int32)) 21 i 2 (0 : Int32)) 21 i 3 (0 : Int32)) 21 i 4 (0 : Int32)) 21 i 5 (0 : Int32)) 21 i 6 (0 : Int32)) 21 i 7 (0 : Int32)) 21 i 8 (0 : Int32))) (cs' := []) rfl trivial ?_
  refine k_callN k70 (st := [aR 28 i, aR 21 i]) rfl (ct0 (okp_c ho rfl rfl) ⟨h29, h30, h31, h32, h33, h34⟩ h66) rfl rfl rfl rfl rfl ?_
  refine k_putF k70 rfl rfl rfl (by decide +kernel) (by decide +kernel) rfl rfl rfl (fun _ => rfl) (fun _ => rfl) ?_
  refine v_seg k70 1 (pc' := 95) (ls' := [(0, aR 21 i), (1, aR 5 s)]) (st' := [aR 21 i]) (X' := (uI (uI (uI (uI (uI (uI (uI (uI X 21 i 1 (0 : Int32)) 21 i 2 (0 : Int32)) 21 i 3 (0 : Int32)) 21 i 4 (0 : Int32)) 21 i 5 (0 : Int32)) 21 i 6 (0 : Int32)) 21 i 7 (0 : Int32)) 21 i 8 (0 : Int32))) (cs' := []) rfl trivial ?_
  refine k_new k70 12 (i + 3) h12 rfl rfl rfl rfl h66 rfl ?_
  refine v_seg k70 1 (pc' := 99) (ls' := [(0, aR 21 i), (1, aR 5 s)]) (st' := [aR 12 (i + 3), aR 12 (i + 3), aR 21 i]) (X' := (uI (uI (uI (uI (uI (uI (uI (uI X 21 i 1 (0 : Int32)) 21 i 2 (0 : Int32)) 21 i 3 (0 : Int32)) 21 i 4 (0 : Int32)) 21 i 5 (0 : Int32)) 21 i 6 (0 : Int32)) 21 i 7 (0 : Int32)) 21 i 8 (0 : Int32))) (cs' := []) rfl trivial ?_
  refine k_callN k70 (st := [aR 12 (i + 3), aR 21 i]) rfl (ct33 (okp_c ho rfl rfl) ⟨h14, h15, h16, h17, h18, h19, h13⟩ h66) rfl rfl rfl rfl rfl ?_
  refine k_putF k70 rfl rfl rfl (by decide +kernel) (by decide +kernel) rfl rfl rfl (fun _ => rfl) (fun _ => rfl) ?_
  refine v_seg k70 1 (pc' := 106) (ls' := [(0, aR 21 i), (1, aR 5 s)]) (st' := [aR 21 i]) (X' := (km33 (i + 3) (uI (uI (uI (uI (uI (uI (uI (uI X 21 i 1 (0 : Int32)) 21 i 2 (0 : Int32)) 21 i 3 (0 : Int32)) 21 i 4 (0 : Int32)) 21 i 5 (0 : Int32)) 21 i 6 (0 : Int32)) 21 i 7 (0 : Int32)) 21 i 8 (0 : Int32)))) (cs' := []) rfl trivial ?_
  refine k_new k70 35 (i) h35 rfl rfl rfl rfl h66 rfl ?_
  refine v_seg k70 1 (pc' := 110) (ls' := [(0, aR 21 i), (1, aR 5 s)]) (st' := [aR 35 i, aR 35 i, aR 21 i]) (X' := (km33 (i + 3) (uI (uI (uI (uI (uI (uI (uI (uI X 21 i 1 (0 : Int32)) 21 i 2 (0 : Int32)) 21 i 3 (0 : Int32)) 21 i 4 (0 : Int32)) 21 i 5 (0 : Int32)) 21 i 6 (0 : Int32)) 21 i 7 (0 : Int32)) 21 i 8 (0 : Int32)))) (cs' := []) rfl trivial ?_
  refine k_callN k70 (st := [aR 35 i, aR 21 i]) rfl (ct8 (okp_c ho rfl rfl) h36 h66) rfl rfl rfl rfl rfl ?_
  refine k_putF k70 rfl rfl rfl (by decide +kernel) (by decide +kernel) rfl rfl rfl (fun _ => rfl) (fun _ => rfl) ?_
  refine v_seg k70 2 (pc' := 118) (ls' := [(0, aR 21 i), (1, aR 5 s)]) (st' := [aR 5 s, aR 21 i]) (X' := (km8 i (km33 (i + 3) (uI (uI (uI (uI (uI (uI (uI (uI X 21 i 1 (0 : Int32)) 21 i 2 (0 : Int32)) 21 i 3 (0 : Int32)) 21 i 4 (0 : Int32)) 21 i 5 (0 : Int32)) 21 i 6 (0 : Int32)) 21 i 7 (0 : Int32)) 21 i 8 (0 : Int32))))) (cs' := []) rfl trivial ?_
  refine k_put k70 rfl rfl rfl (by decide +kernel) rfl rfl (fun _ => rfl) (fun _ => rfl) ?_
  refine k_pop (m := 4) (n := 17) ho rfl rfl rfl (fun j hj => match j, hj with | 0, _ => congrArg (fun x => some (5, x)) hg | 1, _ => rfl | 2, _ => rfl | 3, _ => rfl | 4, _ => rfl | 5, _ => rfl | 6, _ => rfl | 7, _ => rfl | 8, _ => rfl | 9, _ => rfl | 10, _ => rfl | 11, _ => rfl | 12, _ => rfl | 13, _ => rfl | 14, _ => rfl | 15, _ => rfl | 16, _ => rfl | (j + 17), hj => absurd hj (by omega)) ?_
  exact k_ret k70 rfl rfl rfl
