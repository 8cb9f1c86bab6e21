/-! the words of the calls among the members of the JDK that build a text, of its static fields (printed by wip/p53/new/xb.py) -/
theorem jsel_priv {y x : MethodName} {C : String} {s : State} {args : Array Value} (hy : y.cls ≠ "java/lang/invoke/MethodHandle" ∧ y.cls ≠ "java/lang/invoke/VarHandle") (hxy : x.cls = y.cls)
    (h1 : (Cond.selects C x x).before args s = true) (hpriv : (Cond.privateMethod y).before args s = true) (hinst : (Cond.instanceMethod y).before args s = true) : (Cond.selects C y y).before args s = true := by
  obtain ⟨c, r, m, q1, q2, q3, q4, kP, hkP, hkPi⟩ := Cond.selects_spec h1
  obtain ⟨mk, methM, hnamed, hmethM, -, -⟩ := Cond.instanceMethod_spec hinst
  have hfound : s.methodFound? y.cls y.name y.desc = some mk := State.methodFound?_of_named hnamed hy
  have hcls : mk.cls = m.cls := by
    have a := findClass_of_methodNamed hnamed
    have b := findClass_of_methodNamed q3
    rw [hxy] at b
    exact Option.some.inj (a.symm.trans b)
  have hsel : selectMethod {} s.vm c mk = .method mk := selectMethod_private hmethM (Cond.privateMethod_at hpriv mk methM hnamed hmethM)
  simp only [Cond.before, Cond.holds, Cond.value, q1, hfound, hnamed, hsel, hcls, hkP]
  simp; exact hkPi
/-- what a call of a member of the class above, by a StringBuilder, asks of the tables -/
def jU (own cp x y : Nat) : Prop := ∀ (s : State) (args : Array Value), (∀ w ∈ TT, w.before args s = true) → (Cond.methodLink (RN own) cp (nmy x)).before args s = true ∧ (Cond.sameMethod (nmy x).cls (RN 16) (nmy x).name (nmy x).desc).before args s = true ∧ va_Decl s ⟨RN 16, (nmy x).name, (nmy x).desc⟩ ∧ (Cond.selects (RN 12) (nmy x) (nmy y)).before args s = true ∧ (Cond.instanceMethod (nmy y)).before args s = true
theorem jU_of {own cp x y : Nat} (hx : (⟨RN 16, (nmy x).name, (nmy x).desc⟩ : MethodName) = nmy x) (hx3 : x < 300) (h : ∀ w ∈ [Cond.methodLink (RN own) cp (nmy x), Cond.sameMethod (nmy x).cls (RN 16) (nmy x).name (nmy x).desc, Cond.instanceMethod (nmy x), Cond.selects (RN 12) (nmy x) (nmy y), Cond.instanceMethod (nmy y)], w ∈ TT) : jU own cp x y := fun s args hT =>
  ⟨hT _ (h _ (by simp)), hT _ (h _ (by simp)), by rw [hx]; exact va_Decl.of (hT _ (h _ (by simp))) (hT _ (hdw_in hx3)), hT _ (h _ (by simp)), hT _ (h _ (by simp))⟩
theorem jU_pr {own cp x : Nat} (hx : (⟨RN 16, (nmy x).name, (nmy x).desc⟩ : MethodName) = nmy x) (hx3 : x < 300) (hp : x ∈ ([208, 209, 214, 215] : List Nat)) (h : ∀ w ∈ [Cond.methodLink (RN own) cp (nmy x), Cond.sameMethod (nmy x).cls (RN 16) (nmy x).name (nmy x).desc, Cond.instanceMethod (nmy x)], w ∈ TT) : jU own cp x x := fun s args hT =>
  ⟨hT _ (h _ (by simp)), hT _ (h _ (by simp)), by rw [hx]; exact va_Decl.of (hT _ (h _ (by simp))) (hT _ (hdw_in hx3)), hT _ (jx_in hp), hT _ (h _ (by simp))⟩
set_option maxRecDepth 100000 in
theorem ju_14_549 : jU 14 549 222 221 := jU_of (by decide +kernel) (by decide) (in_by _ [1236, 1238, 1237, 1239, 1240] (by decide +kernel) (by decide +kernel))
set_option maxRecDepth 100000 in
theorem ju_14_552 : jU 14 552 223 223 := jU_of (by decide +kernel) (by decide) (in_by _ [1231, 1233, 1232, 1234, 1232] (by decide +kernel) (by decide +kernel))
set_option maxRecDepth 100000 in
theorem ju_14_1047 : jU 14 1047 212 212 := jU_of (by decide +kernel) (by decide) (in_by _ [1244, 1109, 1108, 1110, 1108] (by decide +kernel) (by decide +kernel))
set_option maxRecDepth 100000 in
theorem ju_16_83 : jU 16 83 212 212 := jU_of (by decide +kernel) (by decide) (in_by _ [1107, 1109, 1108, 1110, 1108] (by decide +kernel) (by decide +kernel))
set_option maxRecDepth 100000 in
theorem ju_16_100 : jU 16 100 208 208 := jU_pr (by decide +kernel) (by decide) (by decide) (in_by _ [1076, 1407, 1078] (by decide +kernel) (by decide +kernel))
set_option maxRecDepth 100000 in
theorem ju_16_104 : jU 16 104 209 209 := jU_pr (by decide +kernel) (by decide) (by decide) (in_by _ [1080, 1408, 1082] (by decide +kernel) (by decide +kernel))
set_option maxRecDepth 100000 in
theorem ju_16_208 : jU 16 208 214 214 := jU_pr (by decide +kernel) (by decide) (by decide) (in_by _ [1128, 1409, 1130] (by decide +kernel) (by decide +kernel))
set_option maxRecDepth 100000 in
theorem ju_16_397 : jU 16 397 215 215 := jU_pr (by decide +kernel) (by decide) (by decide) (in_by _ [1132, 1410, 1134] (by decide +kernel) (by decide +kernel))
set_option maxRecDepth 100000 in
theorem js_12_29 : ∀ w ∈ va_wsSU (RN 12) 29 (nmy 203) [], w ∈ TT := in_by _ [1069, 1405, 1063, 1070, 46] (by decide +kernel) (by decide +kernel)
set_option maxRecDepth 100000 in
theorem js_12_50 : ∀ w ∈ va_wsSU (RN 12) 50 (nmy 205) [], w ∈ TT := in_by _ [1166, 1412, 1063, 1167, 46] (by decide +kernel) (by decide +kernel)
set_option maxRecDepth 100000 in
theorem js_12_53 : ∀ w ∈ va_wsSU (RN 12) 53 (nmy 207) [], w ∈ TT := in_by _ [1188, 1413, 1063, 1189, 46] (by decide +kernel) (by decide +kernel)
set_option maxRecDepth 100000 in
theorem js_12_343 : ∀ w ∈ va_wsSU (RN 12) 343 (nmy 222) [], w ∈ TT := in_by _ [1242, 1238, 1063, 1237, 46] (by decide +kernel) (by decide +kernel)
theorem jl_c16 : Cond.fieldLink (RN 16) 18 "java/lang/String" "COMPACT_STRINGS" "Z" ∈ TT := TT_in (tp5 (List.mem_of_getElem? (i := 51) (by decide +kernel))) rfl
theorem jl_c14 : Cond.fieldLink (RN 14) 38 "java/lang/String" "COMPACT_STRINGS" "Z" ∈ TT := TT_in (tp4 (List.mem_of_getElem? (i := 62) (by decide +kernel))) rfl
theorem jl_d1 : Cond.fieldLink (RN 17) 83 "java/lang/Integer" "DigitOnes" "[B" ∈ TT := TT_in (tp5 (List.mem_of_getElem? (i := 205) (by decide +kernel))) rfl
theorem jl_d2 : Cond.fieldLink (RN 17) 87 "java/lang/Integer" "DigitTens" "[B" ∈ TT := TT_in (tp5 (List.mem_of_getElem? (i := 207) (by decide +kernel))) rfl
theorem jt_16_32 : Cond.methodLink (RN 16) 32 (nmy 227) ∈ TT := TT_in (tp5 (List.mem_of_getElem? (i := 135) (by decide +kernel))) rfl
theorem jt_16_40 : Cond.methodLink (RN 16) 40 (nmy 228) ∈ TT := TT_in (tp5 (List.mem_of_getElem? (i := 144) (by decide +kernel))) rfl
theorem jt_16_399 : Cond.methodLink (RN 16) 399 (nmy 234) ∈ TT := TT_in (tp5 (List.mem_of_getElem? (i := 164) (by decide +kernel))) rfl
