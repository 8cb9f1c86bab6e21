/-! the built text is parsed; the state behind it -/
def Rd (X : Sm) (i : Nat) (Z : Sm) (j : Nat) : Prop := i ≤ j ∧ ∀ N, lp (fun s : Int32 × Sm => fn_59_L36 s.1 s.2) (N + (j - i)) (nI i, X) = lp (fun s : Int32 × Sm => fn_59_L36 s.1 s.2) N (nI j, Z)
theorem Rd.rf {X : Sm} {i : Nat} : Rd X i X i := ⟨Nat.le_refl _, fun N => by rw [Nat.sub_self, Nat.add_zero]⟩
theorem Rd.sn {X Z Z2 : Sm} {i j : Nat} (h : Rd X i Z j) (e : fn_59_L36 (nI j) Z = some (.inl (nI (j + 1), Z2))) : Rd X i Z2 (j + 1) := ⟨by have := h.1; omega, fun N => by
  have h1 := h.1
  rw [show N + (j + 1 - i) = (N + 1) + (j - i) by omega, h.2 (N + 1)]
  exact lp_sl (F := fun s : Int32 × Sm => fn_59_L36 s.1 s.2) (s := (nI j, Z)) e⟩
theorem nbk_p {l p : List Int32} {s x : Nat} (h : At l s p) (h0 : 0 < p.length) (e : p.getD 0 0 = nI x) (hx : 40 ≤ x ∧ x ≤ 200) : nbk l s := fun _ => by
  have e2 : Bt l s = x := by
    show ix (l.getD (s + 0) 0) = x
    rw [h.2 0 h0, e]
    exact ix_nI (by omega)
  rw [e2]
  unfold isBl
  rw [beq_ne (by omega), beq_ne (by omega)]
  rfl
theorem hd_e : (txb 22).getD 0 0 = nI 99 ∧ (txb 35).getD 0 0 = nI 97 ∧ (txb 7).getD 0 0 = nI 116 ∧ (txb 11).getD 0 0 = nI 116 ∧ (txb 12).getD 0 0 = nI 114 ∧ (txb 13).getD 0 0 = nI 118 ∧ (txb 14).getD 0 0 = nI 108 ∧ (txb 15).getD 0 0 = nI 115 := by decide +kernel
theorem sl_p : ∀ j, j < 17 → 0 < (txb j).length := by decide
theorem cls_s (f : Nat → Nat) (k : Nat) : clsT f (k + 1) = clsT f k ++ cpc f k := by
  show clsT f k ++ txb 22 ++ [nI (97 + k)] ++ txb (mtx (f k)) ++ [nI 59] = _
  unfold cpc
  simp only [List.append_assoc]
theorem ask_s (l : List Int32) (c v : Nat → Nat) (k : Nat) : askT l c v (k + 1) = askT l c v k ++ apc c v k := by
  show askT l c v k ++ txb 35 ++ [nI (109 + k)] ++ txb 36 ++ digs (c k) ++ txb 37 ++ digs (v k) ++ [nI 59] = _
  unfold apc
  simp only [List.append_assoc]
theorem cls_pre {f : Nat → Nat} {C : Nat} {T b : List Int32} (h : T = clsT f C ++ b) : ∀ n k, k + n = C → ∃ b', T = clsT f k ++ b'
  | 0, k, hk => ⟨b, by rw [show k = C by omega]; exact h⟩
  | n + 1, k, hk => by
    obtain ⟨b', e⟩ := cls_pre h n (k + 1) (by omega)
    exact ⟨cpc f k ++ b', by rw [e, cls_s, List.append_assoc]⟩
theorem ask_pre {l : List Int32} {c v : Nat → Nat} {A : Nat} {T b : List Int32} (h : T = askT l c v A ++ b) : ∀ n k, k + n = A → ∃ b', T = askT l c v k ++ b'
  | 0, k, hk => ⟨b, by rw [show k = A by omega]; exact h⟩
  | n + 1, k, hk => by
    obtain ⟨b', e⟩ := ask_pre h n (k + 1) (by omega)
    exact ⟨apc c v k ++ b', by rw [e, ask_s, List.append_assoc]⟩
theorem cls_at {f : Nat → Nat} {C k : Nat} {T b : List Int32} (h : T = clsT f C ++ b) (hk : k < C) : At T (clsT f k).length (cpc f k) := by
  obtain ⟨b', e⟩ := cls_pre h (C - (k + 1)) (k + 1) (by omega)
  rw [e, cls_s]
  exact At.of _ _ _
theorem ask_at {l : List Int32} {c v : Nat → Nat} {A k : Nat} {T b : List Int32} (h : T = askT l c v A ++ b) (hk : k < A) : At T (askT l c v k).length (apc c v k) := by
  obtain ⟨b', e⟩ := ask_pre h (A - (k + 1)) (k + 1) (by omega)
  rw [e, ask_s]
  exact At.of _ _ _
section PA
variable {T b : List Int32} {X : Sm} {d C A tl mk : Nat} {f c v st : Nat → Nat}
theorem rd_cls (hT : T = clsT f C ++ b) (hC : C ≤ 5) (hf : ∀ i, f i ≤ 3) (hb : nbk T (clsT f C).length) (h : TK9 T X 0) (hD : DI X d 0 A f c v tl st mk) : ∀ k, k ≤ C → ∃ Z, Rd X 0 Z k ∧ Fr (SD d) X Z ∧ TK9 T Z (clsT f k).length ∧ DI Z d k A f c v tl st mk
  | 0, _ => ⟨X, Rd.rf, Fr.rf, h, hD⟩
  | k + 1, hk => by
    obtain ⟨Z, r1, f1, t1, d1⟩ := rd_cls hT hC hf hb h hD k (by omega)
    have hlen : (clsT f k).length + (cpc f k).length = (clsT f (k + 1)).length := by rw [cls_s, List.length_append]
    have hnb : nbk T ((clsT f k).length + (cpc f k).length) := by
      rw [hlen]
      by_cases c1 : k + 1 = C
      · rw [c1]; exact hb
      · exact nbk_p (cls_at hT (by omega : k + 1 < C)).l.l.l (by rw [tlen.1.1]; omega) hd_e.1 (by omega)
    obtain ⟨Z2, e2, f2, t2, d2⟩ := s_cls (i := k) (cls_at hT (by omega)) hnb t1 d1 (by omega) (hf k) (by omega)
    rw [hlen] at t2
    exact ⟨Z2, r1.sn e2, f1.tr f2, t2, d2⟩
theorem rd_ask {l : List Int32} {i0 : Nat} {X0 : Sm} (hT : T = askT l c v A ++ b) (hA : A ≤ 8) (hi0 : i0 ≤ 5) (hc : ∀ i, c i ≤ 30 ∧ v i < 10 ∧ 1 ≤ v i) (hb : nbk T (askT l c v A).length) (h0 : Rd X0 0 X i0) (h : TK9 T X l.length) (hD : DI X d C 0 f c v tl st mk) : ∀ k, k ≤ A → ∃ Z, Rd X0 0 Z (i0 + k) ∧ Fr (SD d) X Z ∧ TK9 T Z (askT l c v k).length ∧ DI Z d C k f c v tl st mk
  | 0, _ => ⟨X, h0, Fr.rf, h, hD⟩
  | k + 1, hk => by
    obtain ⟨Z, r1, f1, t1, d1⟩ := rd_ask hT hA hi0 hc hb h0 h hD k (by omega)
    have hlen : (askT l c v k).length + (apc c v k).length = (askT l c v (k + 1)).length := by rw [ask_s, List.length_append]
    have hnb : nbk T ((askT l c v k).length + (apc c v k).length) := by
      rw [hlen]
      by_cases c1 : k + 1 = A
      · rw [c1]; exact hb
      · exact nbk_p (ask_at hT (by omega : k + 1 < A)).l.l.l.l.l.l (by rw [tlen.1.2.1]; omega) hd_e.2.1 (by omega)
    obtain ⟨Z2, e2, f2, t2, d2⟩ := s_ask (i := i0 + k) (ask_at hT (by omega)) hnb t1 d1 (by omega) (hc k) (by omega)
    rw [hlen] at t2
    exact ⟨Z2, r1.sn e2, f1.tr f2, t2, d2⟩
/-- settings that are read -/
def stF (a1 a2 a3 a4 a5 : Nat) : Nat → Nat := upn (upn (upn (upn (upn stD 0 a1) 1 a2) 2 a3) 3 a4) 4 a5
theorem mk_set : ((nI 32 &&& (nI 1 <<< (nI 0 &&& 31))) = nI 0 ∧ (nI 32 ||| (nI 1 <<< (nI 0 &&& 31))) = nI 33) ∧ ((nI 33 &&& (nI 1 <<< (nI 1 &&& 31))) = nI 0 ∧ (nI 33 ||| (nI 1 <<< (nI 1 &&& 31))) = nI 35) ∧ ((nI 35 &&& (nI 1 <<< (nI 2 &&& 31))) = nI 0 ∧ (nI 35 ||| (nI 1 <<< (nI 2 &&& 31))) = nI 39) ∧ ((nI 39 &&& (nI 1 <<< (nI 3 &&& 31))) = nI 0 ∧ (nI 39 ||| (nI 1 <<< (nI 3 &&& 31))) = nI 47) ∧ ((nI 47 &&& (nI 1 <<< (nI 4 &&& 31))) = nI 0 ∧ (nI 47 ||| (nI 1 <<< (nI 4 &&& 31))) = nI 63) := by decide
theorem p_all {Y : Sm} {t a1 a2 a3 a4 a5 : Nat} (hT : T = setT (askT (clsT f C) c v A) t a1 a2 a3 a4 a5) (hC : 0 < C ∧ C ≤ 5) (hA : 0 < A ∧ A ≤ 8) (hf : ∀ i, f i ≤ 3) (hc : ∀ i, c i ≤ 30 ∧ v i < 10 ∧ 1 ≤ v i) (hP : PRS t a1 a2 a3 a4 a5) (hx : Tx Y T.length (Bt T)) : ∃ Z, fn_59 d Y = some (nI 1, Z) ∧ Fr (SD d) (sG Y 2 d) Z ∧ DI Z d C A f c v (if t = 0 then 2 else 1) (stF a1 a2 a3 a4 a5) 63 := by
  obtain ⟨p0, p1, p2, p3, p4, p5⟩ := hP
  rw [setT_e] at hT
  generalize hl1 : askT (clsT f C) c v A = l1 at hT
  have hTa : T = askT (clsT f C) c v A ++ (tpc t ++ (spc 11 a1 ++ (spc 12 a2 ++ (spc 13 a3 ++ (spc 14 a4 ++ spc 15 a5))))) := by
    rw [hT, hl1]
    simp only [List.append_assoc]
  obtain ⟨bA, hTc⟩ := ask_pre hTa A 0 (by omega)
  have hTc : T = clsT f C ++ bA := hTc
  have at_t : At T l1.length (tpc t) := by
    rw [hT]
    have := At.of l1 (tpc t) (spc 11 a1 ++ (spc 12 a2 ++ (spc 13 a3 ++ (spc 14 a4 ++ spc 15 a5))))
    simp only [List.append_assoc] at this ⊢
    exact this
  have at1 : At T (l1 ++ tpc t).length (spc 11 a1) := by
    rw [hT]
    have := At.of (l1 ++ tpc t) (spc 11 a1) (spc 12 a2 ++ (spc 13 a3 ++ (spc 14 a4 ++ spc 15 a5)))
    simp only [List.append_assoc] at this ⊢
    exact this
  have at2 : At T (l1 ++ tpc t ++ spc 11 a1).length (spc 12 a2) := by
    rw [hT]
    have := At.of (l1 ++ tpc t ++ spc 11 a1) (spc 12 a2) (spc 13 a3 ++ (spc 14 a4 ++ spc 15 a5))
    simp only [List.append_assoc] at this ⊢
    exact this
  have at3 : At T (l1 ++ tpc t ++ spc 11 a1 ++ spc 12 a2).length (spc 13 a3) := by
    rw [hT]
    have := At.of (l1 ++ tpc t ++ spc 11 a1 ++ spc 12 a2) (spc 13 a3) (spc 14 a4 ++ spc 15 a5)
    simp only [List.append_assoc] at this ⊢
    exact this
  have at4 : At T (l1 ++ tpc t ++ spc 11 a1 ++ spc 12 a2 ++ spc 13 a3).length (spc 14 a4) := by
    rw [hT]
    exact At.of (l1 ++ tpc t ++ spc 11 a1 ++ spc 12 a2 ++ spc 13 a3) (spc 14 a4) (spc 15 a5)
  have at5 : At T (l1 ++ tpc t ++ spc 11 a1 ++ spc 12 a2 ++ spc 13 a3 ++ spc 14 a4).length (spc 15 a5) := by
    rw [hT]
    have := At.of (l1 ++ tpc t ++ spc 11 a1 ++ spc 12 a2 ++ spc 13 a3 ++ spc 14 a4) (spc 15 a5) []
    rw [List.append_nil] at this
    exact this
  obtain ⟨h22, h35, h7, h11, h12, h13, h14, h15⟩ := hd_e
  have nA : nbk T l1.length := nbk_p at_t.l.l.l (sl_p 7 (by omega)) h7 (by omega)
  have n1 : nbk T (l1 ++ tpc t).length := nbk_p at1.l.l.l (sl_p 11 (by omega)) h11 (by omega)
  have n2 : nbk T (l1 ++ tpc t ++ spc 11 a1).length := nbk_p at2.l.l.l (sl_p 12 (by omega)) h12 (by omega)
  have n3 : nbk T (l1 ++ tpc t ++ spc 11 a1 ++ spc 12 a2).length := nbk_p at3.l.l.l (sl_p 13 (by omega)) h13 (by omega)
  have n4 : nbk T (l1 ++ tpc t ++ spc 11 a1 ++ spc 12 a2 ++ spc 13 a3).length := nbk_p at4.l.l.l (sl_p 14 (by omega)) h14 (by omega)
  have n5 : nbk T (l1 ++ tpc t ++ spc 11 a1 ++ spc 12 a2 ++ spc 13 a3 ++ spc 14 a4).length := nbk_p at5.l.l.l (sl_p 15 (by omega)) h15 (by omega)
  have n6 : nbk T (l1 ++ tpc t ++ spc 11 a1 ++ spc 12 a2 ++ spc 13 a3 ++ spc 14 a4 ++ spc 15 a5).length := fun h => by
    rw [← hT] at h
    exact absurd h (Nat.lt_irrefl _)
  have nC : nbk T (clsT f C).length := nbk_p (ask_at hTa (k := 0) hA.1).l.l.l.l.l.l (by rw [tlen.1.2.1]; omega) h35 (by omega)
  have n0 : nbk T 0 := nbk_p (cls_at hTc (k := 0) hC.1).l.l.l (by rw [tlen.1.1]; omega) h22 (by omega)
  obtain ⟨X, eX, fX, tX, x3, x5, x12, x11⟩ := p_ic (d := d) hx
  rw [rn_eq (Nat.le_refl 0) (Nat.zero_le _) (fun i _ h2 => absurd h2 (Nat.not_lt_zero i)) n0] at tX
  have dX : DI X d 0 0 f c v 0 stD 0 := ⟨by rw [fX.1, g_sG, ug_at], ⟨x3.2.1, x3.1⟩, ⟨x5.1, x5.2.1, x5.2.2⟩, fun k hk => absurd hk (Nat.not_lt_zero k), fun a ha => absurd ha (Nat.not_lt_zero a), x11, x12⟩
  obtain ⟨Z1, r1, f1, t1, d1⟩ := rd_cls hTc hC.2 hf nC tX dX C (Nat.le_refl _)
  obtain ⟨Z2, r2, f2, t2, d2⟩ := rd_ask (l := clsT f C) hTa hA.2 hC.2 hc (by rw [hl1]; exact nA) r1 t1 d1 A (Nat.le_refl _)
  rw [hl1] at t2
  obtain ⟨Z3, e3, f3, t3, d3⟩ := s_tly (i := C + A) at_t (by rw [← List.length_append]; exact n1) t2 d2 (by omega)
  rw [← List.length_append] at t3
  obtain ⟨Z4, e4, f4, t4, d4⟩ := s_set (i := C + A + 1) (j := 11) (a := 0) (lo := 1) (hi9 := 20) at1 (by rw [← List.length_append]; exact n2) t3 d3 (by omega) (by omega) (by omega) (by omega) mk_set.1 (by omega) (fun Z w e => f62_11 t3 w e)
  rw [← List.length_append] at t4
  obtain ⟨Z5, e5, f5, t5, d5⟩ := s_set (i := C + A + 2) (j := 12) (a := 1) (lo := 1) (hi9 := 50) at2 (by rw [← List.length_append]; exact n3) t4 d4 (by omega) (by omega) (by omega) (by omega) mk_set.2.1 (by omega) (fun Z w e => f62_12 t4 w e)
  rw [← List.length_append] at t5
  obtain ⟨Z6, e6, f6, t6, d6⟩ := s_set (i := C + A + 3) (j := 13) (a := 2) (lo := 0) (hi9 := 99) at3 (by rw [← List.length_append]; exact n4) t5 d5 (by omega) (by omega) (by omega) (by omega) mk_set.2.2.1 (by omega) (fun Z w e => f62_13 t5 w e)
  rw [← List.length_append] at t6
  obtain ⟨Z7, e7, f7, t7, d7⟩ := s_set (i := C + A + 4) (j := 14) (a := 3) (lo := 0) (hi9 := 99) at4 (by rw [← List.length_append]; exact n5) t6 d6 (by omega) (by omega) (by omega) (by omega) mk_set.2.2.2.1 (by omega) (fun Z w e => f62_14 t6 w e)
  rw [← List.length_append] at t7
  obtain ⟨Z8, e8, f8, t8, d8⟩ := s_set (i := C + A + 5) (j := 15) (a := 4) (lo := 1) (hi9 := 9) at5 (by rw [← List.length_append]; exact n6) t7 d7 (by omega) (by omega) (by omega) (by omega) mk_set.2.2.2.2 (by omega) (fun Z w e => f62_15 t7 w e)
  rw [← List.length_append, ← hT] at t8
  have rr := ((((((r2.sn e3).sn e4).sn e5).sn e6).sn e7).sn e8)
  have hk0 : kdS T.length (Bt T) T.length = 0 := if_neg (Nat.lt_irrefl _)
  have eend : fn_59_L36 (nI (C + A + 5 + 1)) Z8 = some (.inr (.inl Z8)) := by
    unfold fn_59_L36
    rw [iteI_le_f (by omega) (by omega), d8.2.1.1, if_pos rfl, t8.2.2.1, hk0, if_pos rfl]
  refine ⟨Z8, ?_, fX.tr (f1.tr (f2.tr (f3.tr (f4.tr (f5.tr (f6.tr (f7.tr f8))))))), d8⟩
  rw [eX]
  have e9 := rr.2 (FU - (C + A + 5 + 1))
  have hFU : C + A + 5 + 1 + 1 ≤ FU := by
    have : (20 : Nat) ≤ FU := by decide
    omega
  rw [show FU - (C + A + 5 + 1) + (C + A + 5 + 1 - 0) = FU by omega, show FU - (C + A + 5 + 1) = (FU - (C + A + 5 + 1) - 1) + 1 by omega, lp_sr (F := fun s : Int32 × Sm => fn_59_L36 s.1 s.2) (s := (nI (C + A + 5 + 1), Z8)) eend] at e9
  rw [e9, exd_l]
  unfold fn_59_J78
  rw [d8.2.1.1, if_pos rfl, d8.1, d8.2.2.1.1, if_neg (show ¬ nI C = nI 0 from nI_ne0 hC.1 (by omega)), d8.2.2.1.2.1, if_neg (show ¬ nI A = nI 0 from nI_ne0 hA.1 (by omega)), if_pos rfl]
end PA
