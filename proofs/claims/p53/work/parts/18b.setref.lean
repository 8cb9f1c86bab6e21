/-! a setup is put into a field: the references change (printed by wip/whole/gen18b.py) -/
def ug (g : Nat → Nat) (a v : Nat) : Nat → Nat := fun b => if b = a then v else g b
abbrev wR (z : Zz) (R : Nat → Nat → Nat → Option (Nat × Nat)) : Zz := (z.1, R, z.2.2)
theorem Cu.storeR {G : Gp} {ad0 ad : Nat → Nat → Nat} {wp : Nat → Nat → Prop} {z0 z : Zz} {X0 X : Mm} {s : State} {H H1 : Heap} {locs l2 : List Loc} {cells slots k i b : Nat} {cc : Nat → Nat} (U : Cu G ad0 wp z0 X0 s ad z X H locs cells slots) (hk : i < z.1 k) (h6 : Nat.beq k 68 = false) (hw : wp k i) (hF : z.1 = cc) (R : Nat → Nat → Nat → Option (Nat × Nat)) (q0 : Nat × Nat)
    (hR : ∀ k' i' j', i' < cc k' → ¬ (k' = k ∧ i' = i ∧ j' = b) → R k' i' j' = z.2.1 k' i' j') (hRb : R k i b = some q0) (hq0 : q0.2 < z.1 q0.1) (e : va_at G.1 vcl (ad k i, cel G ad (wR z R) X k i) H1) (hz : H1.size = H.size) (oq : ∀ q : Nat, q ≠ ad k i → H1[q]? = H[q]?) (hl : ∀ q ∈ l2, q.base = ad k i) :
    Cu G ad0 wp z0 X0 s ad (wR z R) X H1 (locs ++ l2) cells slots := by
  obtain ⟨⟨h1, h2, h3, h4, h5⟩, hdf, hold, hnew, hag, hS, hc, hs, hL, hA⟩ := U
  have hAa : Afr ad0 z0 wp s.heap.size (ad k i) := by
    by_cases hi : i < z0.1 k
    · exact Or.inl ⟨k, i, hw, hi, (hold k i hi).1⟩
    · exact Or.inr (hnew k i (by omega) hk)
  refine ⟨⟨fun k' i' hk' => ?_, h2, h3, by rw [hz]; exact h4, fun k' i' j' q hi' hj' hq => ?_⟩, hdf, hold, hnew, hag, ⟨by rw [hz]; exact hS.1, fun q hq hn => ?_, fun q hq => ?_⟩, hc, hs, hL, hA⟩
  · by_cases heq : k' = k ∧ i' = i
    · rw [heq.1, heq.2]; exact .of h6 e
    · have hne : ad k' i' ≠ ad k i := fun hh => heq (h2 k' i' k i hk' hk hh)
      have hk2 : i' < cc k' := by rw [← hF]; exact hk'
      exact cat.ext (X := X) (ad := ad) (z := z) (z' := wR z R) rfl (fun j _ => ⟨rfl, rfl, rfl, by show adq ad (R k' i' j) = adq ad (z.2.1 k' i' j); rw [hR k' i' j hk2 (fun h => heq ⟨h.1, h.2.1⟩)]⟩) ((h1 k' i' hk').kept (oq _ hne))
  · by_cases heq : k' = k ∧ i' = i ∧ j' = b
    · obtain ⟨rfl, rfl, rfl⟩ := heq
      have e9 : some q0 = some q := hRb.symm.trans hq
      cases e9
      exact hq0
    · have hk2 : i' < cc k' := by rw [← hF]; exact hi'
      exact h5 k' i' j' q hi' hj' ((hR k' i' j' hk2 heq).symm.trans hq)
  · rw [oq q (fun hh => hn (by rw [hh]; exact hAa))]
    exact hS.2.1 q hq hn
  · rcases List.mem_append.mp hq with h | h
    · exact hS.2.2 q h
    · rw [hl q h]; exact hAa
section PG
variable {y : Nat} {xt : List ExceptionTableEntry} {d mc ms : Nat} {wp : Nat → Nat → Prop} {z0 : Zz} {X0 : Mm} {QR : Option Av → Zz → Mm → Prop} {QX : Nat → Zz → Mm → Prop} {z : Zz} {pc : Nat} {ls : Lo} {st : List Av} {X : Mm}
theorem v_putG (K : ∀ p, chk y p = true) {v9 : Int32} {a b c np k i n : Nat} {cc : Nat → Nat} {q0 : Nat × Nat} (R : Nat → Nat → Nat → Option (Nat × Nat)) (ht : tb y pc = (51, v9, a, b, c, np)) (h1 : shp k = (0, c, n)) (h2 : Nat.ble (b + 1) n = true) (hfin : ((vck c).2.1 b).2.2.2 = false) (hft : ft c b = 3) (hw : wp k i) (hF : z.1 = cc)
    (hR : ∀ k' i' j', i' < cc k' → ¬ (k' = k ∧ i' = i ∧ j' = b) → R k' i' j' = z.2.1 k' i' j') (hRb : R k i b = some q0) (hn : ∀ a : Nat, narrow (vty c b) (.ref a) = .ref a) (hfit : ∀ a : Nat, fits (vty c b) (.ref a) = true)
    (kk : i < cc k → q0.2 < cc q0.1 → V y xt d mc ms wp z0 X0 QR QX (wR z R) np ls st X) : V y xt d mc ms wp z0 X0 QR QX z pc ls (aR q0.1 q0.2 :: aR k i :: st) X := by
  intro l G ad0 p e s m args below meth c0 C ad H locs cells slots la U hl ol os
  obtain ⟨hd, hl0, h3⟩ := chk_sp K ht rfl
  have h3 : np = pc + 3 := h3.elim (fun q => by cases q) id
  subst h3
  have hl0 : (decide ((cid y, a, c, b) ∈ FLd) && (Nat.ble 3 (ft c b) || decide (((vck c).2.1 b).2.2.2 = false))) = true := hl0
  have h0 : (cid y, a, c, b) ∈ FLd := of_decide_eq_true (Bool.and_eq_true_iff.mp hl0).1
  have h2 := Nat.le_of_ble_eq_true h2
  have hi : i < z.1 k := oks_h (oks_t os)
  have hq : q0.2 < z.1 q0.1 := oks_h os
  have hb := FLd_ok _ h0
  have hK := C.2.2.2.2.2.2.2.2.2.2.1.1
  have hc := vcl_at hb.2
  have hap := va_apart (own := RN (cid y)) (C := (vck c).1) (T := (vck c).2.1) (N := (vck c).2.2) C.2.2.2.2.1 (lay_in hb.2) (vty c) (vty_ok c hb.2) (vnm_ok c hb.2) hK hc
  have hP := (U.1.1 k i hi).1 (n68 h1 rfl)
  rw [cel_o h1] at hP
  obtain ⟨r, g1, cell, q1, q2, q3, q4⟩ := hP
  have hr : r = vck c := Option.some.inj (g1.symm.trans hc)
  subst hr
  obtain ⟨hS, hfc, kC, hkC, hkind⟩ := hK.1 c _ hc
  obtain ⟨cf, kf, fi, f, hfi, hsl⟩ := hS b hb.1
  have hlay := C.2.2.2.2.1 _ (lay_in hb.2 _ (u_in_lay hb.1))
  unfold u_lay at hlay
  rw [if_neg (by rw [hfin]; decide)] at hlay
  have hst := (u_facts hfc hkC (u_lays C.2.2.2.2.1 (lay_in hb.2) hb.1) hfi).1
  have h6 := u_store hfc hkC hkind hlay hfi (vty_ok c hb.2 b hb.1) (hn (ad q0.1 q0.2)) (hfit (ad q0.1 q0.2))
  refine W.putK C.1 C.2.1 (f := f) ⟨C.2.2.2.1, C.2.2.2.2.1 _ (FLd_in _ h0), ⟨_, _, _, hfi⟩, hst⟩ (by rw [q2]; exact h6) q1 q3 (by rw [hsl]; exact k2_hasslot (q4 b hb.1)) rfl rfl hd fun H' e1 e2 e3 => ?_
  rw [hsl] at e1 ⊢
  refine kk (by rw [← hF]; exact hi) (by rw [← hF]; exact hq) l G ad0 p e s m args below meth c0 C ad H' _ cells slots la (U.storeR hi (n68 h1 rfl) hw hF R q0 hR hRb hq ?_ e2 e3 (l2 := [⟨ad k i, (G.1.2 c) b⟩]) (fun q hq => by rw [List.mem_singleton.mp hq])) hl (fun q hq => (ol q hq).cg rfl) (fun v hv => (oks_t (oks_t os) v hv).cg rfl)
  have hi2 : i < cc k := by rw [← hF]; exact hi
  have m1 : fv ad (wR z R) X k i c b = .ref (ad q0.1 q0.2) := by
    simp only [fv, hft, hRb]
    rfl
  have m2 : ∀ j, j ≠ b → fv ad (wR z R) X k i c j = fv ad z X k i c j := fun j hj => by
    have e9 : R k i j = z.2.1 k i j := hR k i j hi2 (fun h => hj h.2.2)
    simp only [fv, e9]
  rw [cel_o h1, map_set m1 m2]
  exact ⟨_, hc, t_OB.to (V := updV (vp_V ((List.range n).map (fv ad z X k i c))) b (.ref (ad q0.1 q0.2))) ⟨_, e1, q2, q3, t_set q4 hap hb.1 (.ref (ad q0.1 q0.2))⟩ (fun j _ => vp_updV_set (by simp; omega) (.ref (ad q0.1 q0.2)) j)⟩
end PG
theorem beq_ne {a b : Nat} (h : a ≠ b) : Nat.beq a b = false := by
  cases hb : Nat.beq a b with
  | false => rfl
  | true => exact absurd (Nat.eq_of_beq_eq_true hb) h
theorem sr_cg {g g' : Nat → Nat} {k i j : Nat} (h0 : k = 0 → sr0 g' i j = sr0 g i j) (h3 : k = 3 → sr3 g' i j = sr3 g i j) (h21 : k = 21 → sr21 g' i j = sr21 g i j) (h49 : k = 49 → sr49 g' i j = sr49 g i j) (h50 : k = 50 → sr50 g' i j = sr50 g i j) : sr g' k i j = sr g k i j := by
  by_cases e49 : k = 49
  · subst e49; exact h49 rfl
  by_cases e50 : k = 50
  · subst e50; exact h50 rfl
  by_cases e0 : k = 0
  · subst e0; exact h0 rfl
  · by_cases e3 : k = 3
    · subst e3; exact h3 rfl
    · by_cases e21 : k = 21
      · subst e21; exact h21 rfl
      · have b0 : Nat.beq k 0 = false := beq_ne e0
        have b3 : Nat.beq k 3 = false := beq_ne e3
        have b21 : Nat.beq k 21 = false := beq_ne e21
        unfold sr
        have b49 : Nat.beq k 49 = false := beq_ne e49
        have b50 : Nat.beq k 50 = false := beq_ne e50
        rw [b0, b3, b21, b49, b50]
        rfl
theorem ug_at (g : Nat → Nat) (a v : Nat) : ug g a v a = v := if_pos rfl
theorem ug_ne {g : Nat → Nat} {a v b : Nat} (h : b ≠ a) : ug g a v b = g b := if_neg h
theorem cF_ug {g : Nat → Nat} {a v : Nat} (h : a < 2000) : cF (ug g a v) = cF g := by
  funext k
  unfold cF
  rw [ug_ne (by omega)]
def sG (Y : Sm) (a v : Nat) : Sm := (Y.1, ug Y.2 a v)
section WG
variable {d b y u pc : Nat} {ls : Lo} {st : List Av} {Y : Sm} {P : Option Av → Sm → Prop} {E : Nat → Sm → Prop}
theorem w_pg0 (K : ∀ p, chk y p = true) {v9 : Int32} {a e np : Nat} (ht : tb y pc = (51, v9, a, 6, 10, np)) (kk : Wm d b y u np ls st (sG Y 0 e) P E) : Wm d b y u pc ls (aR 5 e :: aR 0 0 :: st) Y P E := fun L z0 X0 => by
  refine v_putG (cc := cF Y.2) (q0 := (5, e)) K (sr (ug Y.2 0 e)) ht rfl rfl (by decide) rfl rfl rfl (fun k' i' j' hi hne => ?_) ?_ (fun _ => rfl) (fun _ => rfl) (fun _ _ => by
    have e9 : cF (ug Y.2 0 e) = cF Y.2 := cF_ug (by decide)
    show V y [] d b (6 * b) allw z0 X0 (qn P) (qn E) (cF Y.2, sr (ug Y.2 0 e), L, u, 6 * u) np ls st Y.1
    rw [← e9]
    exact kk L z0 X0)
  · refine sr_cg (fun h => ?_) (fun _ => ?_) (fun _ => ?_) (fun _ => by unfold sr49; rw [ug_ne (by omega), ug_ne (by omega)]) (fun _ => by unfold sr50; rw [ug_ne (by omega), ug_ne (by omega)])
    · subst h
      have hi0 : i' = 0 := by
        rw [cF_47 (by decide)] at hi
        have : i' < 1 := hi
        omega
      have hj : Nat.beq j' 6 = false := beq_ne (fun h => hne ⟨rfl, hi0, h⟩)
      unfold sr0
      rw [hj, ug_ne (by decide : (1 : Nat) ≠ 0)]
      rfl
    · unfold sr3; rw [ug_ne (by decide : (2 : Nat) ≠ 0)]
    · unfold sr21; rw [ug_ne (by omega : i' + 3 ≠ 0)]
  · show some (5, ug Y.2 0 e 0) = _
    rw [ug_at]
theorem w_pg1 (K : ∀ p, chk y p = true) {v9 : Int32} {a e np : Nat} (ht : tb y pc = (51, v9, a, 7, 10, np)) (kk : Wm d b y u np ls st (sG Y 1 e) P E) : Wm d b y u pc ls (aR 5 e :: aR 0 0 :: st) Y P E := fun L z0 X0 => by
  refine v_putG (cc := cF Y.2) (q0 := (5, e)) K (sr (ug Y.2 1 e)) ht rfl rfl (by decide) rfl rfl rfl (fun k' i' j' hi hne => ?_) ?_ (fun _ => rfl) (fun _ => rfl) (fun _ _ => by
    have e9 : cF (ug Y.2 1 e) = cF Y.2 := cF_ug (by decide)
    show V y [] d b (6 * b) allw z0 X0 (qn P) (qn E) (cF Y.2, sr (ug Y.2 1 e), L, u, 6 * u) np ls st Y.1
    rw [← e9]
    exact kk L z0 X0)
  · refine sr_cg (fun h => ?_) (fun _ => ?_) (fun _ => ?_) (fun _ => by unfold sr49; rw [ug_ne (by omega), ug_ne (by omega)]) (fun _ => by unfold sr50; rw [ug_ne (by omega), ug_ne (by omega)])
    · subst h
      have hi0 : i' = 0 := by
        rw [cF_47 (by decide)] at hi
        have : i' < 1 := hi
        omega
      have hj : Nat.beq j' 7 = false := beq_ne (fun h => hne ⟨rfl, hi0, h⟩)
      unfold sr0
      rw [hj, ug_ne (by decide : (0 : Nat) ≠ 1)]
      rfl
    · unfold sr3; rw [ug_ne (by decide : (2 : Nat) ≠ 1)]
    · unfold sr21; rw [ug_ne (by omega : i' + 3 ≠ 1)]
  · show some (5, ug Y.2 1 e 1) = _
    rw [ug_at]
theorem w_pg2 (K : ∀ p, chk y p = true) {v9 : Int32} {a e np : Nat} (ht : tb y pc = (51, v9, a, 1, 7, np)) (kk : Wm d b y u np ls st (sG Y 2 e) P E) : Wm d b y u pc ls (aR 5 e :: aR 3 0 :: st) Y P E := fun L z0 X0 => by
  refine v_putG (cc := cF Y.2) (q0 := (5, e)) K (sr (ug Y.2 2 e)) ht rfl rfl (by decide) rfl rfl rfl (fun k' i' j' hi hne => ?_) ?_ (fun _ => rfl) (fun _ => rfl) (fun _ _ => by
    have e9 : cF (ug Y.2 2 e) = cF Y.2 := cF_ug (by decide)
    show V y [] d b (6 * b) allw z0 X0 (qn P) (qn E) (cF Y.2, sr (ug Y.2 2 e), L, u, 6 * u) np ls st Y.1
    rw [← e9]
    exact kk L z0 X0)
  · refine sr_cg (fun _ => ?_) (fun h => ?_) (fun _ => ?_) (fun _ => by unfold sr49; rw [ug_ne (by omega), ug_ne (by omega)]) (fun _ => by unfold sr50; rw [ug_ne (by omega), ug_ne (by omega)])
    · unfold sr0; rw [ug_ne (by decide : (0 : Nat) ≠ 2), ug_ne (by decide : (1 : Nat) ≠ 2)]
    · subst h
      have hi0 : i' = 0 := by
        rw [cF_47 (by decide)] at hi
        have : i' < 1 := hi
        omega
      have hj : Nat.beq j' 1 = false := beq_ne (fun h => hne ⟨rfl, hi0, h⟩)
      unfold sr3
      rw [hj]
      rfl
    · unfold sr21; rw [ug_ne (by omega : i' + 3 ≠ 2)]
  · show some (5, ug Y.2 2 e 2) = _
    rw [ug_at]
theorem w_pg3 (K : ∀ p, chk y p = true) {v9 : Int32} {a e i np : Nat} (ht : tb y pc = (51, v9, a, 0, 8, np)) (kk : Wm d b y u np ls st (sG Y (i + 3) e) P E) : Wm d b y u pc ls (aR 5 e :: aR 21 i :: st) Y P E := fun L z0 X0 => by
  by_cases hi11 : i < 11
  case neg =>
    intro l G ad0 p e' s m args below meth c0 C ad H locs cells slots la U hl ol os
    have h := oks_h (oks_t os)
    have h : i < cF Y.2 21 := h
    rw [cF_47 (by decide)] at h
    exact absurd h hi11
  refine v_putG (cc := cF Y.2) (q0 := (5, e)) K (sr (ug Y.2 (i + 3) e)) ht rfl rfl (by decide) rfl rfl rfl (fun k' i' j' hi hne => ?_) ?_ (fun _ => rfl) (fun _ => rfl) (fun h21 _ => by
    have h21 : i < 11 := by rw [cF_47 (by decide)] at h21; exact h21
    have e9 : cF (ug Y.2 (i + 3) e) = cF Y.2 := cF_ug (by omega)
    show V y [] d b (6 * b) allw z0 X0 (qn P) (qn E) (cF Y.2, sr (ug Y.2 (i + 3) e), L, u, 6 * u) np ls st Y.1
    rw [← e9]
    exact kk L z0 X0)
  · refine sr_cg (fun _ => ?_) (fun _ => ?_) (fun h => ?_) (fun _ => by unfold sr49; rw [ug_ne (by omega), ug_ne (by omega)]) (fun _ => by unfold sr50; rw [ug_ne (by omega), ug_ne (by omega)])
    · unfold sr0; rw [ug_ne (by omega : 0 ≠ i + 3), ug_ne (by omega : 1 ≠ i + 3)]
    · unfold sr3; rw [ug_ne (by omega : 2 ≠ i + 3)]
    · subst h
      unfold sr21
      by_cases hj : j' = 0
      · have hi2 : i' ≠ i := fun h => hne ⟨rfl, h, hj⟩
        rw [ug_ne (by omega : i' + 3 ≠ i + 3)]
      · have hj : Nat.beq j' 0 = false := beq_ne hj
        rw [hj]
        rfl
  · show some (5, ug Y.2 (i + 3) e (i + 3)) = _
    rw [ug_at]
end WG
