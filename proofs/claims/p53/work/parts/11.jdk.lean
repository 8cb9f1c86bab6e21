/-! the JDK's members that read a text (printed by wip/whole/gen11.py) -/
theorem jw_lenC : Cond.code yJ0_length_8abf5 cJ0_length_8abf5 1 (some .int) ∈ TT := TT_in (tp4 (List.mem_of_getElem? (i := 57) rfl)) rfl
theorem jw_codC : Cond.code yJ0_coder_7d493 cJ0_coder_7d493 1 (some .byte) ∈ TT := TT_in (tp4 (List.mem_of_getElem? (i := 61) rfl)) rfl
theorem jw_chaC : Cond.code yJ0_charAt_5068e cJ0_charAt_5068e 2 (some .char) ∈ TT := TT_in (tp4 (List.mem_of_getElem? (i := 67) rfl)) rfl
theorem jw_latC : Cond.code yJ0_isLatin1_aae02 cJ0_isLatin1_aae02 1 (some .boolean) ∈ TT := TT_in (tp4 (List.mem_of_getElem? (i := 71) rfl)) rfl
theorem jw_chkC : Cond.code yJ0_checkIndex_df160 cJ0_checkIndex_df160 2 none ∈ TT := TT_in (tp4 (List.mem_of_getElem? (i := 77) rfl)) rfl
theorem jw_preC : Cond.code yJ3_checkIndex_8e157 cJ3_checkIndex_8e157 3 (some .int) ∈ TT := TT_in (tp4 (List.mem_of_getElem? (i := 82) rfl)) rfl
theorem jw_l1cC : Cond.code yJ1_charAt_3b067 cJ1_charAt_3b067 2 (some .char) ∈ TT := TT_in (tp4 (List.mem_of_getElem? (i := 74) rfl)) rfl
theorem jw_ini : Cond.initialized "java/lang/String" ∈ TT := TT_in (tp1 (List.mem_of_getElem? (i := 16) (by decide +kernel))) rfl
theorem jw_in1 : Cond.initialized "java/lang/StringLatin1" ∈ TT := TT_in (tp1 (List.mem_of_getElem? (i := 22) (by decide +kernel))) rfl
theorem jw_inP : Cond.initialized "jdk/internal/util/Preconditions" ∈ TT := TT_in (tp1 (List.mem_of_getElem? (i := 21) (by decide +kernel))) rfl
theorem jw_lenI : Cond.instanceMethod yJ0_length_8abf5 ∈ TT := TT_in (tp4 (List.mem_of_getElem? (i := 55) (by decide +kernel))) rfl
theorem jw_lenV : Cond.selects "java/lang/String" yJ0_length_8abf5 yJ0_length_8abf5 ∈ TT := TT_in (tp4 (List.mem_of_getElem? (i := 56) (by decide +kernel))) rfl
theorem jw_codI : Cond.instanceMethod yJ0_coder_7d493 ∈ TT := TT_in (tp4 (List.mem_of_getElem? (i := 59) (by decide +kernel))) rfl
theorem jw_codV : Cond.selects "java/lang/String" yJ0_coder_7d493 yJ0_coder_7d493 ∈ TT := TT_in (tp4 (List.mem_of_getElem? (i := 60) (by decide +kernel))) rfl
theorem jw_chaI : Cond.instanceMethod yJ0_charAt_5068e ∈ TT := TT_in (tp4 (List.mem_of_getElem? (i := 65) (by decide +kernel))) rfl
theorem jw_chaV : Cond.selects "java/lang/String" yJ0_charAt_5068e yJ0_charAt_5068e ∈ TT := TT_in (tp4 (List.mem_of_getElem? (i := 66) (by decide +kernel))) rfl
theorem jw_latI : Cond.instanceMethod yJ0_isLatin1_aae02 ∈ TT := TT_in (tp4 (List.mem_of_getElem? (i := 69) (by decide +kernel))) rfl
theorem jw_latV : Cond.selects "java/lang/String" yJ0_isLatin1_aae02 yJ0_isLatin1_aae02 ∈ TT := TT_in (tp4 (List.mem_of_getElem? (i := 70) (by decide +kernel))) rfl
theorem jw_chkS : Cond.static yJ0_checkIndex_df160 ∈ TT := TT_in (tp4 (List.mem_of_getElem? (i := 76) (by decide +kernel))) rfl
theorem jw_preS : Cond.static yJ3_checkIndex_8e157 ∈ TT := TT_in (tp4 (List.mem_of_getElem? (i := 81) (by decide +kernel))) rfl
theorem jw_l1cS : Cond.static yJ1_charAt_3b067 ∈ TT := TT_in (tp4 (List.mem_of_getElem? (i := 73) (by decide +kernel))) rfl
theorem jw_kLC : Cond.methodLink "java/lang/String" 335 yJ0_coder_7d493 ∈ TT := TT_in (tp4 (List.mem_of_getElem? (i := 58) (by decide +kernel))) rfl
theorem jw_kCL : Cond.methodLink "java/lang/String" 492 yJ0_isLatin1_aae02 ∈ TT := TT_in (tp4 (List.mem_of_getElem? (i := 68) (by decide +kernel))) rfl
theorem jw_kC1 : Cond.methodLink "java/lang/String" 495 yJ1_charAt_3b067 ∈ TT := TT_in (tp4 (List.mem_of_getElem? (i := 72) (by decide +kernel))) rfl
theorem jw_k1K : Cond.methodLink "java/lang/StringLatin1" 9 yJ0_checkIndex_df160 ∈ TT := TT_in (tp4 (List.mem_of_getElem? (i := 75) (by decide +kernel))) rfl
theorem jw_kKP : Cond.methodLink "java/lang/String" 1059 yJ3_checkIndex_8e157 ∈ TT := TT_in (tp4 (List.mem_of_getElem? (i := 80) (by decide +kernel))) rfl
theorem jw_fV : Cond.fieldLink "java/lang/String" 9 "java/lang/String" "value" "[B" ∈ TT := TT_in (tp6 (List.mem_of_getElem? (i := 32) (by decide +kernel))) rfl
theorem jw_fC : Cond.fieldLink "java/lang/String" 15 "java/lang/String" "coder" "B" ∈ TT := TT_in (tp6 (List.mem_of_getElem? (i := 33) (by decide +kernel))) rfl
theorem jw_fS : Cond.fieldLink "java/lang/String" 38 "java/lang/String" "COMPACT_STRINGS" "Z" ∈ TT := TT_in (tp4 (List.mem_of_getElem? (i := 62) (by decide +kernel))) rfl
theorem jw_fF : Cond.fieldLink "java/lang/String" 1053 "jdk/internal/util/Preconditions" "SIOOBE_FORMATTER" "Ljava/util/function/BiFunction;" ∈ TT := TT_in (tp4 (List.mem_of_getElem? (i := 78) (by decide +kernel))) rfl
theorem TT_good {xs : List Cond} {c : Cond} (hc : c ∈ TT) : GoodIn xs [c] → GoodIn (c :: TT) (c :: TT) := fun _ w hw => ⟨hw, good_of_word ((List.mem_filter.mp ((List.mem_cons.mp hw).elim (fun e => by rw [e]; exact hc) id)).2)⟩
theorem TT_in2 {c d : Cond} (hd : d ∈ TT) : ∀ w ∈ d :: TT, w ∈ c :: TT := fun w hw => List.mem_cons_of_mem _ ((List.mem_cons.mp hw).elim (fun e => by rw [e]; exact hd) id)
theorem TT_gi {c : Cond} {ws : List Cond} (h : ∀ w ∈ ws, w ∈ TT) : GoodIn (c :: TT) ws := fun w hw => ⟨List.mem_cons_of_mem _ (h w hw), good_of_word (List.mem_filter.mp (h w hw)).2⟩
theorem TT_all {d : Cond} (hd : d ∈ TT) : ∀ w ∈ d :: TT, w ∈ TT := fun w hw => (List.mem_cons.mp hw).elim (fun e => by rw [e]; exact hd) id
theorem txt_ok : ∀ j, j < txn → slen j < 2 ^ 31 ∧ ∀ k, k < slen j → (((txb j).getD k 0 &&& 255).toUInt32 % 65536).toInt32 = schr j k ∧ narrow .char (.int (schr j k)) = .int (schr j k) := by decide +kernel
section JV
variable {p : Program} {l : Launch} {e : Env} {R : Room} {s : State} {m : MethodId} {args : Array Value} {below : List Frame} {meth : Method} {c : Code} {H : Heap} {locs : List Loc} {cells slots pc : Nat} {Q : State → Prop} {ls : Array Slot} {st0 rest : List Value}
theorem jv_call {a : Array Value} {Qa : Array Value → State → Outcome → State → Prop} (hr : CallRun p l e R s m args below meth c H locs cells slots 0 0 (F0 m pc ls st0) rest (Qa a) (fun _ => False)) {v0 : Option Value} (hq : ∀ {st : State} {o : Outcome} (t : State), Qa a st o t → o = .returned none ∧ t.heap = st.heap)
    (kk : W p l e R s m args below meth c H locs cells slots Q (F0 m (pc + 3) ls rest)) : W p l e R s m args below meth c H locs cells slots Q (F0 m pc ls st0) := by
  intro T hT X
  obtain ⟨v, st₀, t, T', L, h0, X', hL, e1, hqa, st⟩ := hr T hT X
  obtain ⟨hv, hh⟩ := hq t hqa
  cases hv
  obtain ⟨t2, a1, b1⟩ := kk T' (by rw [e1, hh, h0]) (Stand.forget X' (fun q h => (hL q h).elim))
  exact ⟨t2, st t2 a1, b1⟩
theorem jv_calls {a : Array Value} {Qa : Array Value → State → Outcome → State → Prop} {x : Int32} (hr : CallRun p l e R s m args below meth c H locs cells slots 0 0 (F0 m pc ls st0) rest (Qa a) (fun _ => False)) (hq : ∀ {st : State} {o : Outcome} (t : State), Qa a st o t → o = .returned (some (.int x)) ∧ t.heap = st.heap)
    (kk : W p l e R s m args below meth c H locs cells slots Q (F0 m (pc + 3) ls (.int x :: rest))) : W p l e R s m args below meth c H locs cells slots Q (F0 m pc ls st0) := by
  intro T hT X
  obtain ⟨v, st₀, t, T', L, h0, X', hL, e1, hqa, st⟩ := hr T hT X
  obtain ⟨hv, hh⟩ := hq t hqa
  cases hv
  obtain ⟨t2, a1, b1⟩ := kk T' (by rw [e1, hh, h0]) (Stand.forget X' (fun q h => (hL q h).elim))
  exact ⟨t2, st t2 a1, b1⟩
end JV
/-- Preconditions.checkIndex: a good index comes back -/
theorem jc_pre (l : Launch) (i n : Int32) (f : Value) (hf : f = .null ∨ ∃ t : Nat, f = .ref t) : Met l yJ3_checkIndex_8e157 (Cond.code yJ3_checkIndex_8e157 cJ3_checkIndex_8e157 3 (some .int) :: TT) ({ frames := 0, cells := 0, slots := 0, locals := 0 }) (fun a U => a = #[.int i, .int n, f] ∧ (¬ i < 0 ∧ i < n)) (vp_Si (fun r => r = i)) 0 0 (fun _ => False) := by
  rcases hf with rfl | ⟨t9, rfl⟩
  · refine Met.ofW (cc := cJ3_checkIndex_8e157) (maxL := 3) (ret := (some .int)) (by decide) rfl ?_
    intro p e s m args below meth c s₁ B hml hv
    obtain ⟨rfl, hv⟩ := hv
    have hx := B.exec
    have hb := B.bytes
    have hr := B.returns
    have hts := atoms_spec (ws := Cond.code yJ3_checkIndex_8e157 cJ3_checkIndex_8e157 3 (some .int) :: TT) B.pre
    have hT : ∀ w ∈ TT, w.before _ s = true := fun w hw => hts w (List.mem_cons_of_mem _ hw)
    have hown : s.vm.findClass "jdk/internal/util/Preconditions" = some m.cls := findClass_of_methodNamed B.named
    have hlocks := B.notSynchronized
    have hS : va_S (fun _ : Nat => False) s.heap s.heap [] := va_S.rf
    have hl := lv_entry ([.int i, .int n, .null]) (n := 3) (Nat.le_of_ble_eq_true rfl)
    rw [lg_entry_eq]
    generalize (lg_sl ([.int i, .int n, .null]) ++ List.replicate (3 - (lg_sl ([.int i, .int n, .null])).length) Slot.unset).toArray = ls at hl ⊢
    refine lv_iload_n hx hb (show decode cJ3_checkIndex_8e157 0 = .ok (.iload_n 0, 1) by decide +kernel) rfl (lv_at hl 0 rfl) ?_
    refine lv_if_lt (tgt := 9) hx hb (show decode cJ3_checkIndex_8e157 1 = .ok (.ifCond .lt 8, 3) by decide +kernel) (by decide) (fun h => absurd h hv.1) (fun _ => ?_)
    refine lv_iload_n hx hb (show decode cJ3_checkIndex_8e157 4 = .ok (.iload_n 0, 1) by decide +kernel) rfl (lv_at hl 0 rfl) ?_
    refine lv_iload_n hx hb (show decode cJ3_checkIndex_8e157 5 = .ok (.iload_n 1, 1) by decide +kernel) rfl (lv_at hl 1 rfl) ?_
    refine lv_icmp_lt (tgt := 16) hx hb (show decode cJ3_checkIndex_8e157 6 = .ok (.if_icmp .lt 10, 3) by decide +kernel) (by decide) (fun _ => ?_) (fun h => absurd hv.2 h)
    refine lv_iload_n hx hb (show decode cJ3_checkIndex_8e157 16 = .ok (.iload_n 0, 1) by decide +kernel) rfl (lv_at hl 0 rfl) ?_
    exact W.iret hx hb hr (fun t ht _ => ⟨_, rfl, rfl, ht⟩) (fun _ h => by cases h) (show decode cJ3_checkIndex_8e157 17 = .ok (.ireturn, 1) by decide +kernel)
  · refine Met.ofW (cc := cJ3_checkIndex_8e157) (maxL := 3) (ret := (some .int)) (by decide) rfl ?_
    intro p e s m args below meth c s₁ B hml hv
    obtain ⟨rfl, hv⟩ := hv
    have hx := B.exec
    have hb := B.bytes
    have hr := B.returns
    have hts := atoms_spec (ws := Cond.code yJ3_checkIndex_8e157 cJ3_checkIndex_8e157 3 (some .int) :: TT) B.pre
    have hT : ∀ w ∈ TT, w.before _ s = true := fun w hw => hts w (List.mem_cons_of_mem _ hw)
    have hown : s.vm.findClass "jdk/internal/util/Preconditions" = some m.cls := findClass_of_methodNamed B.named
    have hlocks := B.notSynchronized
    have hS : va_S (fun _ : Nat => False) s.heap s.heap [] := va_S.rf
    have hl := lv_entry ([.int i, .int n, .ref t9]) (n := 3) (Nat.le_of_ble_eq_true rfl)
    rw [lg_entry_eq]
    generalize (lg_sl ([.int i, .int n, .ref t9]) ++ List.replicate (3 - (lg_sl ([.int i, .int n, .ref t9])).length) Slot.unset).toArray = ls at hl ⊢
    refine lv_iload_n hx hb (show decode cJ3_checkIndex_8e157 0 = .ok (.iload_n 0, 1) by decide +kernel) rfl (lv_at hl 0 rfl) ?_
    refine lv_if_lt (tgt := 9) hx hb (show decode cJ3_checkIndex_8e157 1 = .ok (.ifCond .lt 8, 3) by decide +kernel) (by decide) (fun h => absurd h hv.1) (fun _ => ?_)
    refine lv_iload_n hx hb (show decode cJ3_checkIndex_8e157 4 = .ok (.iload_n 0, 1) by decide +kernel) rfl (lv_at hl 0 rfl) ?_
    refine lv_iload_n hx hb (show decode cJ3_checkIndex_8e157 5 = .ok (.iload_n 1, 1) by decide +kernel) rfl (lv_at hl 1 rfl) ?_
    refine lv_icmp_lt (tgt := 16) hx hb (show decode cJ3_checkIndex_8e157 6 = .ok (.if_icmp .lt 10, 3) by decide +kernel) (by decide) (fun _ => ?_) (fun h => absurd hv.2 h)
    refine lv_iload_n hx hb (show decode cJ3_checkIndex_8e157 16 = .ok (.iload_n 0, 1) by decide +kernel) rfl (lv_at hl 0 rfl) ?_
    exact W.iret hx hb hr (fun t ht _ => ⟨_, rfl, rfl, ht⟩) (fun _ h => by cases h) (show decode cJ3_checkIndex_8e157 17 = .ok (.ireturn, 1) by decide +kernel)
/-- String.checkIndex: a good index -/
theorem jc_chk (l : Launch) (G : Gp) (i n : Int32) : Met l yJ0_checkIndex_df160 (Cond.code yJ0_checkIndex_df160 cJ0_checkIndex_df160 2 none :: TT) ({ frames := 1, cells := 0, slots := 0, locals := 40 }) (fun a U => a = #[.int i, .int n] ∧ ((¬ i < 0 ∧ i < n) ∧ Kh G U U.heap)) (fun _ st o t => o = .returned none ∧ t.heap = st.heap) 0 0 (fun _ => False) := by
  refine Met.ofW (cc := cJ0_checkIndex_df160) (maxL := 2) (ret := none) (by decide) rfl ?_
  intro p e s m args below meth c s₁ B hml hv
  obtain ⟨rfl, hv⟩ := hv
  have hx := B.exec
  have hb := B.bytes
  have hr := B.returns
  have hts := atoms_spec (ws := Cond.code yJ0_checkIndex_df160 cJ0_checkIndex_df160 2 none :: TT) B.pre
  have hT : ∀ w ∈ TT, w.before _ s = true := fun w hw => hts w (List.mem_cons_of_mem _ hw)
  have hown : s.vm.findClass "java/lang/String" = some m.cls := findClass_of_methodNamed B.named
  have hlocks := B.notSynchronized
  have hS : va_S (fun _ : Nat => False) s.heap s.heap [] := va_S.rf
  have hl := lv_entry ([.int i, .int n]) (n := 2) (Nat.le_of_ble_eq_true rfl)
  rw [lg_entry_eq]
  generalize (lg_sl ([.int i, .int n]) ++ List.replicate (2 - (lg_sl ([.int i, .int n])).length) Slot.unset).toArray = ls at hl ⊢
  have hS0 : va_S (A0 G) s.heap s.heap [] := va_S.rf
  refine lv_iload_n hx hb (show decode cJ0_checkIndex_df160 0 = .ok (.iload_n 0, 1) by decide +kernel) rfl (lv_at hl 0 rfl) ?_
  refine lv_iload_n hx hb (show decode cJ0_checkIndex_df160 1 = .ok (.iload_n 1, 1) by decide +kernel) rfl (lv_at hl 1 rfl) ?_
  obtain ⟨f, hf, hZ⟩ : ∃ f : Value, (f = .null ∨ ∃ t : Nat, f = .ref t) ∧ va_Z "jdk/internal/util/Preconditions" "SIOOBE_FORMATTER" "Ljava/util/function/BiFunction;" f (A0 G) s s.heap := by
    rcases hv.2.2.2.2.2.1 with h | ⟨t, h⟩
    · exact ⟨_, Or.inl rfl, h⟩
    · exact ⟨_, Or.inr ⟨t, rfl⟩, h⟩
  refine va_gets (ref := "jdk/internal/util/Preconditions") hx hb hZ hS0 hown (hT _ jw_fF) (fun _ h => h) (show decode cJ0_checkIndex_df160 2 = .ok (.getstatic 1053, 3) by decide +kernel) ?_
  refine vp_callSi (W.runS (As := [.int i, .int n, f]) (rest := []) ⟨hx, hb, hml, hown, hts⟩ (jc_pre l i n f hf) ⟨callB_of 3 hts (TT_gi (TT_all jw_preC)) rfl rfl rfl (hT _ jw_inP) (hT _ jw_kKP) (by decide +kernel) ⟨Nat.le_of_ble_eq_true rfl, Nat.le_of_ble_eq_true rfl⟩, hT _ jw_preS⟩ ⟨fun a U g mk q => q, fun U hU hW => ⟨rfl, hv.1⟩⟩ rfl rfl hl.1 rfl (lv_room (Nat.le_of_ble_eq_true rfl)) (show decode cJ0_checkIndex_df160 5 = .ok (.invokestatic 1059, 3) by decide +kernel) ⟨Nat.le_of_ble_eq_true rfl, Nat.le_of_ble_eq_true rfl⟩) (fun r _ => ?_)
  refine lv_pop hx hb (show decode cJ0_checkIndex_df160 8 = .ok (.pop, 1) by decide +kernel) rfl ?_
  exact W.vret hx hb hr (fun t ht _ => ⟨rfl, ht⟩) (fun _ h => by cases h) (show decode cJ0_checkIndex_df160 9 = .ok (.return_, 1) by decide +kernel)
/-- StringLatin1.charAt -/
theorem jc_l1c (l : Launch) (G : Gp) (i : Int32) (j v : Nat) (hj : j < txn) : Met l yJ1_charAt_3b067 (Cond.code yJ1_charAt_3b067 cJ1_charAt_3b067 2 (some .char) :: TT) ({ frames := 2, cells := 0, slots := 0, locals := 80 }) (fun a U => a = #[.ref v, .int i] ∧ (vp_in i (slen j) ∧ Kh G U U.heap ∧ (∃ adV : Nat → Nat, vk_S txn ((List.range txn).map slen) ((List.range txn).map txb) G.2.2.1 adV (A0 G) U U.heap ∧ v = adV j))) (fun _ st o t => o = .returned (some (.int (schr j (ix i)))) ∧ t.heap = st.heap) 0 0 (fun _ => False) := by
  refine Met.ofW (cc := cJ1_charAt_3b067) (maxL := 2) (ret := (some .char)) (by decide) rfl ?_
  intro p e s m args below meth c s₁ B hml hv
  obtain ⟨rfl, hv⟩ := hv
  have hx := B.exec
  have hb := B.bytes
  have hr := B.returns
  have hts := atoms_spec (ws := Cond.code yJ1_charAt_3b067 cJ1_charAt_3b067 2 (some .char) :: TT) B.pre
  have hT : ∀ w ∈ TT, w.before _ s = true := fun w hw => hts w (List.mem_cons_of_mem _ hw)
  have hown : s.vm.findClass "java/lang/StringLatin1" = some m.cls := findClass_of_methodNamed B.named
  have hlocks := B.notSynchronized
  have hS : va_S (fun _ : Nat => False) s.heap s.heap [] := va_S.rf
  have hl := lv_entry ([.ref v, .int i]) (n := 2) (Nat.le_of_ble_eq_true rfl)
  rw [lg_entry_eq]
  generalize (lg_sl ([.ref v, .int i]) ++ List.replicate (2 - (lg_sl ([.ref v, .int i])).length) Slot.unset).toArray = ls at hl ⊢
  have hS0 : va_S (A0 G) s.heap s.heap [] := va_S.rf
  obtain ⟨hin, hKh, adV, hvk, rfl⟩ := hv
  have hs9 : ((List.range txn).map slen).getD j 0 = slen j := by simp [List.getD_eq_getElem?_getD, hj]
  have hb9 : ((List.range txn).map txb).getD j [] = txb j := by simp [List.getD_eq_getElem?_getD, hj]
  obtain ⟨-, -, -, hT9⟩ := hvk.1 j hj
  rw [hs9, hb9] at hT9
  have hn9 : slen j < 2 ^ 31 := (txt_ok j hj).1
  obtain ⟨k9, hk9, rfl⟩ := vp_in_of hin hn9
  have hix : ix (nI k9) = k9 := nI_clamp (by omega)
  refine lv_iload_n hx hb (show decode cJ1_charAt_3b067 0 = .ok (.iload_n 1, 1) by decide +kernel) rfl (lv_at hl 1 rfl) ?_
  refine lv_aload_n hx hb (show decode cJ1_charAt_3b067 1 = .ok (.aload_n 0, 1) by decide +kernel) rfl (lv_at hl 0 rfl) ?_
  refine va_tlen hx hb hT9 hS0 rfl (show decode cJ1_charAt_3b067 2 = .ok (.arraylength, 1) by decide +kernel) ?_
  refine jv_call (v0 := none) (W.runS (As := [.int (nI k9), .int (nI (slen j))]) (rest := []) ⟨hx, hb, hml, hown, hts⟩ (jc_chk l G (nI k9) (nI (slen j))) ⟨callB_of 2 hts (TT_gi (TT_all jw_chkC)) rfl rfl rfl (hT _ jw_ini) (hT _ jw_k1K) (by decide +kernel) ⟨Nat.le_of_ble_eq_true rfl, Nat.le_of_ble_eq_true rfl⟩, hT _ jw_chkS⟩ ⟨fun a U g mk q => ⟨q.1, q.2.1, q.2.2.moved (Vm.Alike.refl U.vm)⟩, fun U hU hW => ⟨rfl, ⟨nI_pos (by omega), nI_lt hk9 hn9⟩, by rw [hU]; exact hKh.moved hW.alike⟩⟩ rfl rfl hl.1 rfl (lv_room (Nat.le_of_ble_eq_true rfl)) (show decode cJ1_charAt_3b067 3 = .ok (.invokestatic 9, 3) by decide +kernel) ⟨Nat.le_of_ble_eq_true rfl, Nat.le_of_ble_eq_true rfl⟩) (fun t h => h) ?_
  refine lv_aload_n hx hb (show decode cJ1_charAt_3b067 6 = .ok (.aload_n 0, 1) by decide +kernel) rfl (lv_at hl 0 rfl) ?_
  refine lv_iload_n hx hb (show decode cJ1_charAt_3b067 7 = .ok (.iload_n 1, 1) by decide +kernel) rfl (lv_at hl 1 rfl) ?_
  refine va_tb hx hb hT9 hS0 hin rfl (show decode cJ1_charAt_3b067 8 = .ok (.baload, 1) by decide +kernel) ?_
  refine lv_sipush (v := 255) hx hb (show decode cJ1_charAt_3b067 9 = .ok (.sipush 255, 3) by decide +kernel) (by decide) ?_
  refine lv_iand hx hb (show decode cJ1_charAt_3b067 12 = .ok (.iand, 1) by decide +kernel) ?_
  refine lv_i2c hx hb (show decode cJ1_charAt_3b067 13 = .ok (.i2c, 1) by decide +kernel) rfl ?_
  have hch := (txt_ok j hj).2 k9 hk9
  have hval : (((txb j).getD (nI k9).toNatClampNeg 0 &&& 255).toUInt32 % 65536).toInt32 = schr j k9 := by
    rw [show (nI k9).toNatClampNeg = k9 from hix]; exact hch.1
  rw [hval]
  exact W.zret hx hb hr hch.2 (fun t ht _ => ⟨by rw [hix], ht⟩) (fun _ h => by cases h) (show decode cJ1_charAt_3b067 14 = .ok (.ireturn, 1) by decide +kernel)
/-- String.coder: 0 -/
theorem jc_cod (l : Launch) (G : Gp) (j : Nat) (hj : j < txn) : Met l yJ0_coder_7d493 (Cond.code yJ0_coder_7d493 cJ0_coder_7d493 1 (some .byte) :: TT) ({ frames := 0, cells := 0, slots := 0, locals := 0 }) (fun a U => a = #[.ref (G.2.2.1 j)] ∧ Kh G U U.heap) (vp_Si (fun r => r = 0)) 0 0 (fun _ => False) := by
  refine Met.ofW (cc := cJ0_coder_7d493) (maxL := 1) (ret := (some .byte)) (by decide) rfl ?_
  intro p e s m args below meth c s₁ B hml hv
  obtain ⟨rfl, hv⟩ := hv
  have hx := B.exec
  have hb := B.bytes
  have hr := B.returns
  have hts := atoms_spec (ws := Cond.code yJ0_coder_7d493 cJ0_coder_7d493 1 (some .byte) :: TT) B.pre
  have hT : ∀ w ∈ TT, w.before _ s = true := fun w hw => hts w (List.mem_cons_of_mem _ hw)
  have hown : s.vm.findClass "java/lang/String" = some m.cls := findClass_of_methodNamed B.named
  have hlocks := B.notSynchronized
  have hS : va_S (fun _ : Nat => False) s.heap s.heap [] := va_S.rf
  have hl := lv_entry ([.ref (G.2.2.1 j)]) (n := 1) (Nat.le_of_ble_eq_true rfl)
  rw [lg_entry_eq]
  generalize (lg_sl ([.ref (G.2.2.1 j)]) ++ List.replicate (1 - (lg_sl ([.ref (G.2.2.1 j)])).length) Slot.unset).toArray = ls at hl ⊢
  have hS0 : va_S (A0 G) s.heap s.heap [] := va_S.rf
  obtain ⟨-, -, ⟨adV, hvk⟩, hZ, -⟩ := hv
  obtain ⟨-, hC, -, -⟩ := hvk.1 j hj
  refine va_gets (ref := "java/lang/String") hx hb hZ hS0 hown (hT _ jw_fS) (fun _ h => h) (show decode cJ0_coder_7d493 0 = .ok (.getstatic 38, 3) by decide +kernel) ?_
  refine lv_if_eq (tgt := 13) hx hb (show decode cJ0_coder_7d493 3 = .ok (.ifCond .eq 10, 3) by decide +kernel) (by decide) (fun h => absurd h (by decide)) (fun _ => ?_)
  refine lv_aload_n hx hb (show decode cJ0_coder_7d493 6 = .ok (.aload_n 0, 1) by decide +kernel) rfl (lv_at hl 0 rfl) ?_
  refine vk_getf (ref := "java/lang/String") hx hb hC hS0 hown (hT _ jw_fC) (fun _ h => h) (show decode cJ0_coder_7d493 7 = .ok (.getfield 15, 3) by decide +kernel) ?_
  refine lv_goto (tgt := 14) hx hb (show decode cJ0_coder_7d493 10 = .ok (.goto 4, 3) by decide +kernel) (by decide) ?_
  exact W.zret hx hb hr rfl (fun t ht _ => ⟨_, rfl, rfl, ht⟩) (fun _ h => by cases h) (show decode cJ0_coder_7d493 14 = .ok (.ireturn, 1) by decide +kernel)
/-- String.isLatin1: 1 -/
theorem jc_lat (l : Launch) (G : Gp) (j : Nat) (hj : j < txn) : Met l yJ0_isLatin1_aae02 (Cond.code yJ0_isLatin1_aae02 cJ0_isLatin1_aae02 1 (some .boolean) :: TT) ({ frames := 0, cells := 0, slots := 0, locals := 0 }) (fun a U => a = #[.ref (G.2.2.1 j)] ∧ Kh G U U.heap) (vp_Si (fun r => r = 1)) 0 0 (fun _ => False) := by
  refine Met.ofW (cc := cJ0_isLatin1_aae02) (maxL := 1) (ret := (some .boolean)) (by decide) rfl ?_
  intro p e s m args below meth c s₁ B hml hv
  obtain ⟨rfl, hv⟩ := hv
  have hx := B.exec
  have hb := B.bytes
  have hr := B.returns
  have hts := atoms_spec (ws := Cond.code yJ0_isLatin1_aae02 cJ0_isLatin1_aae02 1 (some .boolean) :: TT) B.pre
  have hT : ∀ w ∈ TT, w.before _ s = true := fun w hw => hts w (List.mem_cons_of_mem _ hw)
  have hown : s.vm.findClass "java/lang/String" = some m.cls := findClass_of_methodNamed B.named
  have hlocks := B.notSynchronized
  have hS : va_S (fun _ : Nat => False) s.heap s.heap [] := va_S.rf
  have hl := lv_entry ([.ref (G.2.2.1 j)]) (n := 1) (Nat.le_of_ble_eq_true rfl)
  rw [lg_entry_eq]
  generalize (lg_sl ([.ref (G.2.2.1 j)]) ++ List.replicate (1 - (lg_sl ([.ref (G.2.2.1 j)])).length) Slot.unset).toArray = ls at hl ⊢
  have hS0 : va_S (A0 G) s.heap s.heap [] := va_S.rf
  obtain ⟨-, -, ⟨adV, hvk⟩, hZ, -⟩ := hv
  obtain ⟨-, hC, -, -⟩ := hvk.1 j hj
  refine va_gets (ref := "java/lang/String") hx hb hZ hS0 hown (hT _ jw_fS) (fun _ h => h) (show decode cJ0_isLatin1_aae02 0 = .ok (.getstatic 38, 3) by decide +kernel) ?_
  refine lv_if_eq (tgt := 17) hx hb (show decode cJ0_isLatin1_aae02 3 = .ok (.ifCond .eq 14, 3) by decide +kernel) (by decide) (fun h => absurd h (by decide)) (fun _ => ?_)
  refine lv_aload_n hx hb (show decode cJ0_isLatin1_aae02 6 = .ok (.aload_n 0, 1) by decide +kernel) rfl (lv_at hl 0 rfl) ?_
  refine vk_getf (ref := "java/lang/String") hx hb hC hS0 hown (hT _ jw_fC) (fun _ h => h) (show decode cJ0_isLatin1_aae02 7 = .ok (.getfield 15, 3) by decide +kernel) ?_
  refine lv_if_ne (tgt := 17) hx hb (show decode cJ0_isLatin1_aae02 10 = .ok (.ifCond .ne 7, 3) by decide +kernel) (by decide) (fun h => absurd rfl h) (fun _ => ?_)
  refine lv_iconst (v := 1) hx hb (show decode cJ0_isLatin1_aae02 13 = .ok (.iconst 1, 1) by decide +kernel) (by decide) ?_
  refine lv_goto (tgt := 18) hx hb (show decode cJ0_isLatin1_aae02 14 = .ok (.goto 4, 3) by decide +kernel) (by decide) ?_
  exact W.zret hx hb hr rfl (fun t ht _ => ⟨_, rfl, rfl, ht⟩) (fun _ h => by cases h) (show decode cJ0_isLatin1_aae02 18 = .ok (.ireturn, 1) by decide +kernel)
/-- String.length -/
theorem jc_len (l : Launch) (G : Gp) (j : Nat) (hj : j < txn) : Met l yJ0_length_8abf5 (Cond.code yJ0_length_8abf5 cJ0_length_8abf5 1 (some .int) :: TT) ({ frames := 1, cells := 0, slots := 0, locals := 40 }) (fun a U => a = #[.ref (G.2.2.1 j)] ∧ Kh G U U.heap) (vp_Si (fun r => r = nI (slen j))) 0 0 (fun _ => False) := by
  refine Met.ofW (cc := cJ0_length_8abf5) (maxL := 1) (ret := (some .int)) (by decide) rfl ?_
  intro p e s m args below meth c s₁ B hml hv
  obtain ⟨rfl, hv⟩ := hv
  have hx := B.exec
  have hb := B.bytes
  have hr := B.returns
  have hts := atoms_spec (ws := Cond.code yJ0_length_8abf5 cJ0_length_8abf5 1 (some .int) :: TT) B.pre
  have hT : ∀ w ∈ TT, w.before _ s = true := fun w hw => hts w (List.mem_cons_of_mem _ hw)
  have hown : s.vm.findClass "java/lang/String" = some m.cls := findClass_of_methodNamed B.named
  have hlocks := B.notSynchronized
  have hS : va_S (fun _ : Nat => False) s.heap s.heap [] := va_S.rf
  have hl := lv_entry ([.ref (G.2.2.1 j)]) (n := 1) (Nat.le_of_ble_eq_true rfl)
  rw [lg_entry_eq]
  generalize (lg_sl ([.ref (G.2.2.1 j)]) ++ List.replicate (1 - (lg_sl ([.ref (G.2.2.1 j)])).length) Slot.unset).toArray = ls at hl ⊢
  have hS0 : va_S (A0 G) s.heap s.heap [] := va_S.rf
  have hKh := hv
  obtain ⟨-, -, ⟨adV, hvk⟩, hZ, -⟩ := hv
  have hrec := vk_recv hvk hj hS0
  obtain ⟨-, hC, hV, hT9⟩ := hvk.1 j hj
  have hs9 : ((List.range txn).map slen).getD j 0 = slen j := by simp [List.getD_eq_getElem?_getD, hj]
  rw [hs9] at hT9
  refine lv_aload_n hx hb (show decode cJ0_length_8abf5 0 = .ok (.aload_n 0, 1) by decide +kernel) rfl (lv_at hl 0 rfl) ?_
  refine vk_getf (ref := "java/lang/String") hx hb hV hS0 hown (hT _ jw_fV) (fun _ h => h) (show decode cJ0_length_8abf5 1 = .ok (.getfield 9, 3) by decide +kernel) ?_
  refine va_tlen hx hb hT9 hS0 rfl (show decode cJ0_length_8abf5 4 = .ok (.arraylength, 1) by decide +kernel) ?_
  refine lv_aload_n hx hb (show decode cJ0_length_8abf5 5 = .ok (.aload_n 0, 1) by decide +kernel) rfl (lv_at hl 0 rfl) ?_
  refine vp_callSi (W.runV (C := "java/lang/String") (As := []) (rest := [.int (nI (slen j))]) ⟨hx, hb, hml, hown, hts⟩ (jc_cod l G j hj) ⟨callB_of 0 hts (TT_gi (TT_all jw_codC)) rfl rfl rfl (hT _ jw_ini) (hT _ jw_kLC) (by decide +kernel) ⟨Nat.le_of_ble_eq_true rfl, Nat.le_of_ble_eq_true rfl⟩, hT _ jw_codI, hT _ jw_codV⟩ ⟨fun a U g mk q => ⟨q.1, q.2.moved (Vm.Alike.refl U.vm)⟩, hrec, fun U hU hW => ⟨rfl, by rw [hU]; exact hKh.moved hW.alike⟩⟩ rfl rfl hl.1 rfl (lv_room (Nat.le_of_ble_eq_true rfl)) (show decode cJ0_length_8abf5 6 = .ok (.invokevirtual 335, 3) by decide +kernel) ⟨Nat.le_of_ble_eq_true rfl, Nat.le_of_ble_eq_true rfl⟩) (fun r hr9 => ?_)
  subst hr9
  refine lv_ishr hx hb (show decode cJ0_length_8abf5 9 = .ok (.ishr, 1) by decide +kernel) ?_
  rw [sb_shr0]
  exact W.iret hx hb hr (fun t ht _ => ⟨_, rfl, rfl, ht⟩) (fun _ h => by cases h) (show decode cJ0_length_8abf5 10 = .ok (.ireturn, 1) by decide +kernel)
/-- String.charAt -/
theorem jc_cha (l : Launch) (G : Gp) (i : Int32) (j : Nat) (hj : j < txn) : Met l yJ0_charAt_5068e (Cond.code yJ0_charAt_5068e cJ0_charAt_5068e 2 (some .char) :: TT) ({ frames := 3, cells := 0, slots := 0, locals := 120 }) (fun a U => a = #[.ref (G.2.2.1 j), .int i] ∧ (vp_in i (slen j) ∧ Kh G U U.heap)) (vp_Si (fun r => r = schr j (ix i))) 0 0 (fun _ => False) := by
  refine Met.ofW (cc := cJ0_charAt_5068e) (maxL := 2) (ret := (some .char)) (by decide) rfl ?_
  intro p e s m args below meth c s₁ B hml hv
  obtain ⟨rfl, hv⟩ := hv
  have hx := B.exec
  have hb := B.bytes
  have hr := B.returns
  have hts := atoms_spec (ws := Cond.code yJ0_charAt_5068e cJ0_charAt_5068e 2 (some .char) :: TT) B.pre
  have hT : ∀ w ∈ TT, w.before _ s = true := fun w hw => hts w (List.mem_cons_of_mem _ hw)
  have hown : s.vm.findClass "java/lang/String" = some m.cls := findClass_of_methodNamed B.named
  have hlocks := B.notSynchronized
  have hS : va_S (fun _ : Nat => False) s.heap s.heap [] := va_S.rf
  have hl := lv_entry ([.ref (G.2.2.1 j), .int i]) (n := 2) (Nat.le_of_ble_eq_true rfl)
  rw [lg_entry_eq]
  generalize (lg_sl ([.ref (G.2.2.1 j), .int i]) ++ List.replicate (2 - (lg_sl ([.ref (G.2.2.1 j), .int i])).length) Slot.unset).toArray = ls at hl ⊢
  have hS0 : va_S (A0 G) s.heap s.heap [] := va_S.rf
  obtain ⟨hin, hKh⟩ := hv
  obtain ⟨adV, hvk⟩ := hKh.2.2.1
  have hrec := vk_recv hvk hj hS0
  obtain ⟨-, hC, hV, hT9⟩ := hvk.1 j hj
  refine lv_aload_n hx hb (show decode cJ0_charAt_5068e 0 = .ok (.aload_n 0, 1) by decide +kernel) rfl (lv_at hl 0 rfl) ?_
  refine vp_callSi (W.runV (C := "java/lang/String") (As := []) (rest := []) ⟨hx, hb, hml, hown, hts⟩ (jc_lat l G j hj) ⟨callB_of 0 hts (TT_gi (TT_all jw_latC)) rfl rfl rfl (hT _ jw_ini) (hT _ jw_kCL) (by decide +kernel) ⟨Nat.le_of_ble_eq_true rfl, Nat.le_of_ble_eq_true rfl⟩, hT _ jw_latI, hT _ jw_latV⟩ ⟨fun a U g mk q => ⟨q.1, q.2.moved (Vm.Alike.refl U.vm)⟩, hrec, fun U hU hW => ⟨rfl, by rw [hU]; exact hKh.moved hW.alike⟩⟩ rfl rfl hl.1 rfl (lv_room (Nat.le_of_ble_eq_true rfl)) (show decode cJ0_charAt_5068e 1 = .ok (.invokevirtual 492, 3) by decide +kernel) ⟨Nat.le_of_ble_eq_true rfl, Nat.le_of_ble_eq_true rfl⟩) (fun r hr9 => ?_)
  subst hr9
  refine lv_if_eq (tgt := 16) hx hb (show decode cJ0_charAt_5068e 4 = .ok (.ifCond .eq 12, 3) by decide +kernel) (by decide) (fun h => absurd h (by decide)) (fun _ => ?_)
  refine lv_aload_n hx hb (show decode cJ0_charAt_5068e 7 = .ok (.aload_n 0, 1) by decide +kernel) rfl (lv_at hl 0 rfl) ?_
  refine vk_getf (ref := "java/lang/String") hx hb hV hS0 hown (hT _ jw_fV) (fun _ h => h) (show decode cJ0_charAt_5068e 8 = .ok (.getfield 9, 3) by decide +kernel) ?_
  refine lv_iload_n hx hb (show decode cJ0_charAt_5068e 11 = .ok (.iload_n 1, 1) by decide +kernel) rfl (lv_at hl 1 rfl) ?_
  refine jv_calls (W.runS (As := [.ref (adV j), .int i]) (rest := []) ⟨hx, hb, hml, hown, hts⟩ (jc_l1c l G i j (adV j) hj) ⟨callB_of 2 hts (TT_gi (TT_all jw_l1cC)) rfl rfl rfl (hT _ jw_in1) (hT _ jw_kC1) (by decide +kernel) ⟨Nat.le_of_ble_eq_true rfl, Nat.le_of_ble_eq_true rfl⟩, hT _ jw_l1cS⟩ ⟨fun a U g mk q => ⟨q.1, q.2.1, q.2.2.1.moved (Vm.Alike.refl U.vm), by obtain ⟨-, -, -, a9, h9, e9⟩ := q; exact ⟨a9, vk_S.moved (u := U) (U := U.calling g mk a) (Vm.Alike.refl U.vm) h9, e9⟩⟩, fun U hU hW => ⟨rfl, hin, by rw [hU]; exact hKh.moved hW.alike, adV, by rw [hU]; exact vk_S.moved hW.alike hvk, rfl⟩⟩ rfl rfl hl.1 rfl (lv_room (Nat.le_of_ble_eq_true rfl)) (show decode cJ0_charAt_5068e 12 = .ok (.invokestatic 495, 3) by decide +kernel) ⟨Nat.le_of_ble_eq_true rfl, Nat.le_of_ble_eq_true rfl⟩) (fun t h => h) ?_
  have hch : narrow .char (.int (schr j (ix i))) = .int (schr j (ix i)) := by
    obtain ⟨k9, hk9, rfl⟩ := vp_in_of hin (txt_ok j hj).1
    rw [show ix (nI k9) = k9 from nI_clamp (by have := (txt_ok j hj).1; omega)]
    exact ((txt_ok j hj).2 k9 hk9).2
  exact W.zret hx hb hr hch (fun t ht _ => ⟨_, rfl, rfl, ht⟩) (fun _ h => by cases h) (show decode cJ0_charAt_5068e 15 = .ok (.ireturn, 1) by decide +kernel)
