/-! straight stretches, branches, ends (printed by wip/whole/gen14.py) -/
section CTL
variable {y : Nat} {xt : List ExceptionTableEntry} {d mc ms : Nat} {wp : Nat → Nat → Prop} {z0 : Zz} {X0 : Mm} {QR : Option Av → Zz → Mm → Prop} {QX : Nat → Zz → Mm → Prop} {z : Zz} {pc : Nat} {ls : Lo} {st : List Av} {X : Mm}
theorem seg_ok (K : ∀ p, chk y p = true) (hr : rok d mc ms z = true) : ∀ (n pc : Nat) (ls : Lo) (st : List Av) (X : Mm) (cs : List Prop) (pc' : Nat) (ls' : Lo) (st' : List Av) (X' : Mm) (cs' : List Prop), seg wp z y n pc ls st X cs = some (pc', ls', st', X', cs') → allP cs' → V y xt d mc ms wp z0 X0 QR QX z pc' ls' st' X' → V y xt d mc ms wp z0 X0 QR QX z pc ls st X ∧ allP cs
  | 0, pc, ls, st, X, cs, pc', ls', st', X', cs', h, hc, k => by
    cases h
    exact ⟨k, hc⟩
  | n + 1, pc, ls, st, X, cs, pc', ls', st', X', cs', h, hc, k => by
    unfold seg at h
    split at h
    next op v a b c np ht =>
      split at h
      · next l2 s2 X2 c2 hs =>
        obtain ⟨k2, hc2⟩ := seg_ok K hr n np l2 s2 X2 (cs ++ c2) pc' ls' st' X' cs' h hc k
        obtain ⟨hc3, hc4⟩ := allP_app hc2
        have hop : Nat.beq op 999 = false := by
          cases hb : Nat.beq op 999 with
          | false => rfl
          | true =>
            rw [Nat.eq_of_beq_eq_true hb] at hs
            cases hs
        obtain ⟨h1, h2, h3⟩ := chk_sp K ht hop
        exact ⟨sem_ok h1 h2 h3 hr hs hc4 k2, hc3⟩
      · cases h
        exact ⟨k, hc⟩
/-- n steps, or as many as there are ahead of a branch, a call, an end -/
theorem v_seg (K : ∀ p, chk y p = true) (n : Nat) {pc' : Nat} {ls' : Lo} {st' : List Av} {X' : Mm} {cs' : List Prop} (h : seg wp z y n pc ls st X [] = some (pc', ls', st', X', cs')) (hc : allP cs') (k : V y xt d mc ms wp z0 X0 QR QX z pc' ls' st' X') (hr : rok d mc ms z = true := by rfl) : V y xt d mc ms wp z0 X0 QR QX z pc ls st X :=
  (seg_ok K hr n pc ls st X [] pc' ls' st' X' cs' h hc k).1
/-- other locals: those that the walk goes on with -/
theorem v_ls (l2 : Lo) (h : ∀ q ∈ l2, lget q.1 ls = some q.2) (k : V y xt d mc ms wp z0 X0 QR QX z pc l2 st X) : V y xt d mc ms wp z0 X0 QR QX z pc ls st X := by
  intro l G ad0 p e s m args below meth c0 C ad H locs cells slots la U hl ol os
  exact k l G ad0 p e s m args below meth c0 C ad H locs cells slots la U ⟨hl.1, hl.2.1, fun q hq => by
    obtain ⟨r, hr, rfl⟩ := List.mem_map.mp hq
    exact lget_la hl (h r hr)⟩ (fun q hq => okl_get ol (h q hq)) os
theorem v_icmp_eq (K : ∀ p, chk y p = true) {v a b : Int32} {tg c np : Nat} (ht : tb y pc = (64, v, tg, 0, c, np)) (kt : a = b → V y xt d mc ms wp z0 X0 QR QX z tg ls st X) (kf : ¬ a = b → V y xt d mc ms wp z0 X0 QR QX z np ls st X) : V y xt d mc ms wp z0 X0 QR QX z pc ls (aI b :: aI a :: st) X := by
  intro l G ad0 p e s m args below meth c0 C ad H locs cells slots la U hl ol os
  obtain ⟨h1, -, h3⟩ := chk_sp K ht rfl
  have h3 : np = pc + 3 := h3.elim (fun q => by cases q) id
  subst h3
  exact lv_icmp_eq (tgt := tg) C.1 C.2.1 h1 (by show (pc : Int) + ((tg : Int) - (pc : Int)) = (tg : Int); omega) (fun q => kt q l G ad0 p e s m args below meth c0 C ad H locs cells slots la U hl ol (oks_t (oks_t os))) (fun q => kf q l G ad0 p e s m args below meth c0 C ad H locs cells slots la U hl ol (oks_t (oks_t os)))
theorem v_if_eq (K : ∀ p, chk y p = true) {v a : Int32} {tg c np : Nat} (ht : tb y pc = (65, v, tg, 0, c, np)) (kt : a = 0 → V y xt d mc ms wp z0 X0 QR QX z tg ls st X) (kf : ¬ a = 0 → V y xt d mc ms wp z0 X0 QR QX z np ls st X) : V y xt d mc ms wp z0 X0 QR QX z pc ls (aI a :: st) X := by
  intro l G ad0 p e s m args below meth c0 C ad H locs cells slots la U hl ol os
  obtain ⟨h1, -, h3⟩ := chk_sp K ht rfl
  have h3 : np = pc + 3 := h3.elim (fun q => by cases q) id
  subst h3
  exact lv_if_eq (tgt := tg) C.1 C.2.1 h1 (by show (pc : Int) + ((tg : Int) - (pc : Int)) = (tg : Int); omega) (fun q => kt q l G ad0 p e s m args below meth c0 C ad H locs cells slots la U hl ol (oks_t os)) (fun q => kf q l G ad0 p e s m args below meth c0 C ad H locs cells slots la U hl ol (oks_t os))
theorem v_icmp_ne (K : ∀ p, chk y p = true) {v a b : Int32} {tg c np : Nat} (ht : tb y pc = (64, v, tg, 1, c, np)) (kt : ¬ a = b → V y xt d mc ms wp z0 X0 QR QX z tg ls st X) (kf : a = b → V y xt d mc ms wp z0 X0 QR QX z np ls st X) : V y xt d mc ms wp z0 X0 QR QX z pc ls (aI b :: aI a :: st) X := by
  intro l G ad0 p e s m args below meth c0 C ad H locs cells slots la U hl ol os
  obtain ⟨h1, -, h3⟩ := chk_sp K ht rfl
  have h3 : np = pc + 3 := h3.elim (fun q => by cases q) id
  subst h3
  exact lv_icmp_ne (tgt := tg) C.1 C.2.1 h1 (by show (pc : Int) + ((tg : Int) - (pc : Int)) = (tg : Int); omega) (fun q => kt q l G ad0 p e s m args below meth c0 C ad H locs cells slots la U hl ol (oks_t (oks_t os))) (fun q => kf q l G ad0 p e s m args below meth c0 C ad H locs cells slots la U hl ol (oks_t (oks_t os)))
theorem v_if_ne (K : ∀ p, chk y p = true) {v a : Int32} {tg c np : Nat} (ht : tb y pc = (65, v, tg, 1, c, np)) (kt : ¬ a = 0 → V y xt d mc ms wp z0 X0 QR QX z tg ls st X) (kf : a = 0 → V y xt d mc ms wp z0 X0 QR QX z np ls st X) : V y xt d mc ms wp z0 X0 QR QX z pc ls (aI a :: st) X := by
  intro l G ad0 p e s m args below meth c0 C ad H locs cells slots la U hl ol os
  obtain ⟨h1, -, h3⟩ := chk_sp K ht rfl
  have h3 : np = pc + 3 := h3.elim (fun q => by cases q) id
  subst h3
  exact lv_if_ne (tgt := tg) C.1 C.2.1 h1 (by show (pc : Int) + ((tg : Int) - (pc : Int)) = (tg : Int); omega) (fun q => kt q l G ad0 p e s m args below meth c0 C ad H locs cells slots la U hl ol (oks_t os)) (fun q => kf q l G ad0 p e s m args below meth c0 C ad H locs cells slots la U hl ol (oks_t os))
theorem v_icmp_lt (K : ∀ p, chk y p = true) {v a b : Int32} {tg c np : Nat} (ht : tb y pc = (64, v, tg, 2, c, np)) (kt : a < b → V y xt d mc ms wp z0 X0 QR QX z tg ls st X) (kf : ¬ a < b → V y xt d mc ms wp z0 X0 QR QX z np ls st X) : V y xt d mc ms wp z0 X0 QR QX z pc ls (aI b :: aI a :: st) X := by
  intro l G ad0 p e s m args below meth c0 C ad H locs cells slots la U hl ol os
  obtain ⟨h1, -, h3⟩ := chk_sp K ht rfl
  have h3 : np = pc + 3 := h3.elim (fun q => by cases q) id
  subst h3
  exact lv_icmp_lt (tgt := tg) C.1 C.2.1 h1 (by show (pc : Int) + ((tg : Int) - (pc : Int)) = (tg : Int); omega) (fun q => kt q l G ad0 p e s m args below meth c0 C ad H locs cells slots la U hl ol (oks_t (oks_t os))) (fun q => kf q l G ad0 p e s m args below meth c0 C ad H locs cells slots la U hl ol (oks_t (oks_t os)))
theorem v_if_lt (K : ∀ p, chk y p = true) {v a : Int32} {tg c np : Nat} (ht : tb y pc = (65, v, tg, 2, c, np)) (kt : a < 0 → V y xt d mc ms wp z0 X0 QR QX z tg ls st X) (kf : ¬ a < 0 → V y xt d mc ms wp z0 X0 QR QX z np ls st X) : V y xt d mc ms wp z0 X0 QR QX z pc ls (aI a :: st) X := by
  intro l G ad0 p e s m args below meth c0 C ad H locs cells slots la U hl ol os
  obtain ⟨h1, -, h3⟩ := chk_sp K ht rfl
  have h3 : np = pc + 3 := h3.elim (fun q => by cases q) id
  subst h3
  exact lv_if_lt (tgt := tg) C.1 C.2.1 h1 (by show (pc : Int) + ((tg : Int) - (pc : Int)) = (tg : Int); omega) (fun q => kt q l G ad0 p e s m args below meth c0 C ad H locs cells slots la U hl ol (oks_t os)) (fun q => kf q l G ad0 p e s m args below meth c0 C ad H locs cells slots la U hl ol (oks_t os))
theorem v_icmp_ge (K : ∀ p, chk y p = true) {v a b : Int32} {tg c np : Nat} (ht : tb y pc = (64, v, tg, 3, c, np)) (kt : b ≤ a → V y xt d mc ms wp z0 X0 QR QX z tg ls st X) (kf : ¬ b ≤ a → V y xt d mc ms wp z0 X0 QR QX z np ls st X) : V y xt d mc ms wp z0 X0 QR QX z pc ls (aI b :: aI a :: st) X := by
  intro l G ad0 p e s m args below meth c0 C ad H locs cells slots la U hl ol os
  obtain ⟨h1, -, h3⟩ := chk_sp K ht rfl
  have h3 : np = pc + 3 := h3.elim (fun q => by cases q) id
  subst h3
  exact lv_icmp_ge (tgt := tg) C.1 C.2.1 h1 (by show (pc : Int) + ((tg : Int) - (pc : Int)) = (tg : Int); omega) (fun q => kt q l G ad0 p e s m args below meth c0 C ad H locs cells slots la U hl ol (oks_t (oks_t os))) (fun q => kf q l G ad0 p e s m args below meth c0 C ad H locs cells slots la U hl ol (oks_t (oks_t os)))
theorem v_if_ge (K : ∀ p, chk y p = true) {v a : Int32} {tg c np : Nat} (ht : tb y pc = (65, v, tg, 3, c, np)) (kt : 0 ≤ a → V y xt d mc ms wp z0 X0 QR QX z tg ls st X) (kf : ¬ 0 ≤ a → V y xt d mc ms wp z0 X0 QR QX z np ls st X) : V y xt d mc ms wp z0 X0 QR QX z pc ls (aI a :: st) X := by
  intro l G ad0 p e s m args below meth c0 C ad H locs cells slots la U hl ol os
  obtain ⟨h1, -, h3⟩ := chk_sp K ht rfl
  have h3 : np = pc + 3 := h3.elim (fun q => by cases q) id
  subst h3
  exact lv_if_ge (tgt := tg) C.1 C.2.1 h1 (by show (pc : Int) + ((tg : Int) - (pc : Int)) = (tg : Int); omega) (fun q => kt q l G ad0 p e s m args below meth c0 C ad H locs cells slots la U hl ol (oks_t os)) (fun q => kf q l G ad0 p e s m args below meth c0 C ad H locs cells slots la U hl ol (oks_t os))
theorem v_icmp_gt (K : ∀ p, chk y p = true) {v a b : Int32} {tg c np : Nat} (ht : tb y pc = (64, v, tg, 4, c, np)) (kt : b < a → V y xt d mc ms wp z0 X0 QR QX z tg ls st X) (kf : ¬ b < a → V y xt d mc ms wp z0 X0 QR QX z np ls st X) : V y xt d mc ms wp z0 X0 QR QX z pc ls (aI b :: aI a :: st) X := by
  intro l G ad0 p e s m args below meth c0 C ad H locs cells slots la U hl ol os
  obtain ⟨h1, -, h3⟩ := chk_sp K ht rfl
  have h3 : np = pc + 3 := h3.elim (fun q => by cases q) id
  subst h3
  exact lv_icmp_gt (tgt := tg) C.1 C.2.1 h1 (by show (pc : Int) + ((tg : Int) - (pc : Int)) = (tg : Int); omega) (fun q => kt q l G ad0 p e s m args below meth c0 C ad H locs cells slots la U hl ol (oks_t (oks_t os))) (fun q => kf q l G ad0 p e s m args below meth c0 C ad H locs cells slots la U hl ol (oks_t (oks_t os)))
theorem v_if_gt (K : ∀ p, chk y p = true) {v a : Int32} {tg c np : Nat} (ht : tb y pc = (65, v, tg, 4, c, np)) (kt : 0 < a → V y xt d mc ms wp z0 X0 QR QX z tg ls st X) (kf : ¬ 0 < a → V y xt d mc ms wp z0 X0 QR QX z np ls st X) : V y xt d mc ms wp z0 X0 QR QX z pc ls (aI a :: st) X := by
  intro l G ad0 p e s m args below meth c0 C ad H locs cells slots la U hl ol os
  obtain ⟨h1, -, h3⟩ := chk_sp K ht rfl
  have h3 : np = pc + 3 := h3.elim (fun q => by cases q) id
  subst h3
  exact lv_if_gt (tgt := tg) C.1 C.2.1 h1 (by show (pc : Int) + ((tg : Int) - (pc : Int)) = (tg : Int); omega) (fun q => kt q l G ad0 p e s m args below meth c0 C ad H locs cells slots la U hl ol (oks_t os)) (fun q => kf q l G ad0 p e s m args below meth c0 C ad H locs cells slots la U hl ol (oks_t os))
theorem v_icmp_le (K : ∀ p, chk y p = true) {v a b : Int32} {tg c np : Nat} (ht : tb y pc = (64, v, tg, 5, c, np)) (kt : a ≤ b → V y xt d mc ms wp z0 X0 QR QX z tg ls st X) (kf : ¬ a ≤ b → V y xt d mc ms wp z0 X0 QR QX z np ls st X) : V y xt d mc ms wp z0 X0 QR QX z pc ls (aI b :: aI a :: st) X := by
  intro l G ad0 p e s m args below meth c0 C ad H locs cells slots la U hl ol os
  obtain ⟨h1, -, h3⟩ := chk_sp K ht rfl
  have h3 : np = pc + 3 := h3.elim (fun q => by cases q) id
  subst h3
  exact lv_icmp_le (tgt := tg) C.1 C.2.1 h1 (by show (pc : Int) + ((tg : Int) - (pc : Int)) = (tg : Int); omega) (fun q => kt q l G ad0 p e s m args below meth c0 C ad H locs cells slots la U hl ol (oks_t (oks_t os))) (fun q => kf q l G ad0 p e s m args below meth c0 C ad H locs cells slots la U hl ol (oks_t (oks_t os)))
theorem v_if_le (K : ∀ p, chk y p = true) {v a : Int32} {tg c np : Nat} (ht : tb y pc = (65, v, tg, 5, c, np)) (kt : a ≤ 0 → V y xt d mc ms wp z0 X0 QR QX z tg ls st X) (kf : ¬ a ≤ 0 → V y xt d mc ms wp z0 X0 QR QX z np ls st X) : V y xt d mc ms wp z0 X0 QR QX z pc ls (aI a :: st) X := by
  intro l G ad0 p e s m args below meth c0 C ad H locs cells slots la U hl ol os
  obtain ⟨h1, -, h3⟩ := chk_sp K ht rfl
  have h3 : np = pc + 3 := h3.elim (fun q => by cases q) id
  subst h3
  exact lv_if_le (tgt := tg) C.1 C.2.1 h1 (by show (pc : Int) + ((tg : Int) - (pc : Int)) = (tg : Int); omega) (fun q => kt q l G ad0 p e s m args below meth c0 C ad H locs cells slots la U hl ol (oks_t os)) (fun q => kf q l G ad0 p e s m args below meth c0 C ad H locs cells slots la U hl ol (oks_t os))
theorem v_swIn (K : ∀ p, chk y p = true) {v : Int32} {j a b c np len df lo t : Nat} {ts : List Nat} (ht : tb y pc = (66, v, a, b, c, np)) (hs : swl.getD a (0, 0, 0, []) = (len, df, lo, ts)) (hb : lo + ts.length < 2 ^ 31) (hj : ts[j]? = some t) (k : V y xt d mc ms wp z0 X0 QR QX z t ls st X) : V y xt d mc ms wp z0 X0 QR QX z pc ls (aI (nI (lo + j)) :: st) X := by
  intro l G ad0 p e s m args below meth c0 C ad H locs cells slots la U hl ol os
  obtain ⟨h1, -, -⟩ := chk_sp K ht rfl
  simp only [rl, hs] at h1
  have hjl : j < ts.length := (List.getElem?_eq_some_iff.mp hj).1
  have hx : (nI (lo + j)).toInt = ((lo + j : Nat) : Int) := nI_toInt (by omega)
  refine lv_tableIn (tgt := t) (off := Int.ofNat t - (pc : Int)) C.1 C.2.1 h1 (by rw [hx]; omega) (by rw [hx]; omega) ?_ (by show (pc : Int) + (((t : Nat) : Int) - (pc : Int)) = (t : Int); omega) (k l G ad0 p e s m args below meth c0 C ad H locs cells slots la U hl ol (oks_t os))
  rw [hx, show (((lo + j : Nat) : Int) - (lo : Int)).toNat = j by omega]
  simp [hj]
theorem v_swOut (K : ∀ p, chk y p = true) {v x : Int32} {a b c np len df lo : Nat} {ts : List Nat} (ht : tb y pc = (66, v, a, b, c, np)) (hs : swl.getD a (0, 0, 0, []) = (len, df, lo, ts)) (hx : x.toInt < (lo : Int) ∨ ((lo + ts.length - 1 : Nat) : Int) < x.toInt) (k : V y xt d mc ms wp z0 X0 QR QX z df ls st X) : V y xt d mc ms wp z0 X0 QR QX z pc ls (aI x :: st) X := by
  intro l G ad0 p e s m args below meth c0 C ad H locs cells slots la U hl ol os
  obtain ⟨h1, -, -⟩ := chk_sp K ht rfl
  simp only [rl, hs] at h1
  exact lv_tableOut (tgt := df) C.1 C.2.1 h1 hx (by show (pc : Int) + ((df : Int) - (pc : Int)) = (df : Int); omega) (k l G ad0 p e s m args below meth c0 C ad H locs cells slots la U hl ol (oks_t os))
theorem Cu.ed {G : Gp} {ad0 ad : Nat → Nat → Nat} {X : Mm} {s : State} {H : Heap} {locs : List Loc} {cells slots : Nat} (U : Cu G ad0 wp z0 X0 s ad z X H locs cells slots) : Ed G ad0 wp z0 X0 s.heap.size ad z X H := ⟨U.1, U.2.1, U.2.2.1, U.2.2.2.1, U.2.2.2.2.1, U.2.2.2.2.2.2.2.2.1⟩
theorem Cu.locsA {G : Gp} {ad0 ad : Nat → Nat → Nat} {X : Mm} {s : State} {H : Heap} {locs : List Loc} {cells slots : Nat} (U : Cu G ad0 wp z0 X0 s ad z X H locs cells slots) : ∀ q ∈ locs, Afr ad0 z0 wp s.heap.size q.base := U.2.2.2.2.2.1.2.2
theorem v_ireturn (K : ∀ p, chk y p = true) {v : Int32} {a b c np : Nat} {x : Int32} (ht : tb y pc = (70, v, a, b, c, np)) (hrt : rtt y = some .int) (hq : QR (some (aI x)) z X) (hr : rok d mc ms z = true := by rfl) : V y xt d mc ms wp z0 X0 QR QX z pc ls [aI x] X := by
  intro l G ad0 p e s m args below meth c0 C ad H locs cells slots la U hl ol os
  obtain ⟨h1, -, -⟩ := chk_sp K ht rfl
  obtain ⟨r1, r2, r3⟩ := rok_of hr
  refine vx_ret (W.widen (k := mc) (n := ms) (Nat.le_trans U.2.2.2.2.2.2.1 r2) (Nat.le_trans U.2.2.2.2.2.2.2.1 r3) ?_)
  exact W.iret C.1 C.2.1 (C.2.2.2.2.2.2.1.trans hrt) (fun t hT _ => ⟨⟨some (aI x), ad, z, X, rfl, hq, by rw [hT]; exact U.ed, fun w hw => by cases hw; trivial⟩, U.2.2.2.2.2.1.F hT⟩) U.locsA h1 C.2.2.2.2.2.1
theorem v_zreturn (K : ∀ p, chk y p = true) {v : Int32} {a b c np : Nat} {x : Int32} (ht : tb y pc = (70, v, a, b, c, np)) (hrt : rtt y = some .boolean) (hx : x = 0 ∨ x = 1) (hq : QR (some (aI x)) z X) (hr : rok d mc ms z = true := by rfl) : V y xt d mc ms wp z0 X0 QR QX z pc ls [aI x] X := by
  intro l G ad0 p e s m args below meth c0 C ad H locs cells slots la U hl ol os
  obtain ⟨h1, -, -⟩ := chk_sp K ht rfl
  obtain ⟨r1, r2, r3⟩ := rok_of hr
  refine vx_ret (W.widen (k := mc) (n := ms) (Nat.le_trans U.2.2.2.2.2.2.1 r2) (Nat.le_trans U.2.2.2.2.2.2.2.1 r3) ?_)
  exact W.zret (ty := .boolean) C.1 C.2.1 (C.2.2.2.2.2.2.1.trans hrt) (by rcases hx with q | q <;> (subst q; rfl)) (fun t hT _ => ⟨⟨some (aI x), ad, z, X, rfl, hq, by rw [hT]; exact U.ed, fun w hw => by cases hw; trivial⟩, U.2.2.2.2.2.1.F hT⟩) U.locsA h1 C.2.2.2.2.2.1
theorem v_lreturn (K : ∀ p, chk y p = true) {v : Int32} {a b c np : Nat} {x : Int64} (ht : tb y pc = (71, v, a, b, c, np)) (hrt : rtt y = some .long) (hq : QR (some (aJ x)) z X) (hr : rok d mc ms z = true := by rfl) : V y xt d mc ms wp z0 X0 QR QX z pc ls [aJ x] X := by
  intro l G ad0 p e s m args below meth c0 C ad H locs cells slots la U hl ol os
  obtain ⟨h1, -, -⟩ := chk_sp K ht rfl
  obtain ⟨r1, r2, r3⟩ := rok_of hr
  refine vx_ret (W.widen (k := mc) (n := ms) (Nat.le_trans U.2.2.2.2.2.2.1 r2) (Nat.le_trans U.2.2.2.2.2.2.2.1 r3) ?_)
  exact W.lret C.1 C.2.1 (C.2.2.2.2.2.2.1.trans hrt) (fun t hT _ => ⟨⟨some (aJ x), ad, z, X, rfl, hq, by rw [hT]; exact U.ed, fun w hw => by cases hw; trivial⟩, U.2.2.2.2.2.1.F hT⟩) U.locsA h1 C.2.2.2.2.2.1
theorem v_freturn (K : ∀ p, chk y p = true) {v : Int32} {a b c np : Nat} {x : UInt32} (ht : tb y pc = (72, v, a, b, c, np)) (hrt : rtt y = some .float) (hq : QR (some (aF x)) z X) (hr : rok d mc ms z = true := by rfl) : V y xt d mc ms wp z0 X0 QR QX z pc ls [aF x] X := by
  intro l G ad0 p e s m args below meth c0 C ad H locs cells slots la U hl ol os
  obtain ⟨h1, -, -⟩ := chk_sp K ht rfl
  obtain ⟨r1, r2, r3⟩ := rok_of hr
  refine vx_ret (W.widen (k := mc) (n := ms) (Nat.le_trans U.2.2.2.2.2.2.1 r2) (Nat.le_trans U.2.2.2.2.2.2.2.1 r3) ?_)
  exact W.fret C.1 C.2.1 (C.2.2.2.2.2.2.1.trans hrt) (fun t hT _ => ⟨⟨some (aF x), ad, z, X, rfl, hq, by rw [hT]; exact U.ed, fun w hw => by cases hw; trivial⟩, U.2.2.2.2.2.1.F hT⟩) U.locsA h1 C.2.2.2.2.2.1
theorem v_dreturn (K : ∀ p, chk y p = true) {v : Int32} {a b c np : Nat} {x : UInt64} (ht : tb y pc = (73, v, a, b, c, np)) (hrt : rtt y = some .double) (hq : QR (some (aD x)) z X) (hr : rok d mc ms z = true := by rfl) : V y xt d mc ms wp z0 X0 QR QX z pc ls [aD x] X := by
  intro l G ad0 p e s m args below meth c0 C ad H locs cells slots la U hl ol os
  obtain ⟨h1, -, -⟩ := chk_sp K ht rfl
  obtain ⟨r1, r2, r3⟩ := rok_of hr
  refine vx_ret (W.widen (k := mc) (n := ms) (Nat.le_trans U.2.2.2.2.2.2.1 r2) (Nat.le_trans U.2.2.2.2.2.2.2.1 r3) ?_)
  exact W.dret C.1 C.2.1 (C.2.2.2.2.2.2.1.trans hrt) (fun t hT _ => ⟨⟨some (aD x), ad, z, X, rfl, hq, by rw [hT]; exact U.ed, fun w hw => by cases hw; trivial⟩, U.2.2.2.2.2.1.F hT⟩) U.locsA h1 C.2.2.2.2.2.1
theorem v_return (K : ∀ p, chk y p = true) {v : Int32} {a b c np : Nat} (ht : tb y pc = (74, v, a, b, c, np)) (hrt : rtt y = none) (hq : QR none z X) (hr : rok d mc ms z = true := by rfl) : V y xt d mc ms wp z0 X0 QR QX z pc ls [] X := by
  intro l G ad0 p e s m args below meth c0 C ad H locs cells slots la U hl ol os
  obtain ⟨h1, -, -⟩ := chk_sp K ht rfl
  obtain ⟨r1, r2, r3⟩ := rok_of hr
  refine vx_ret (W.widen (k := mc) (n := ms) (Nat.le_trans U.2.2.2.2.2.2.1 r2) (Nat.le_trans U.2.2.2.2.2.2.2.1 r3) ?_)
  exact W.vret C.1 C.2.1 (C.2.2.2.2.2.2.1.trans hrt) (fun t hT _ => ⟨⟨none, ad, z, X, rfl, hq, by rw [hT]; exact U.ed, fun w hw => by cases hw⟩, U.2.2.2.2.2.1.F hT⟩) U.locsA h1 C.2.2.2.2.2.1
end CTL
