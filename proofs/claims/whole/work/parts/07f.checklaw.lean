/-! the tables tell the code: the law (printed by wip/whole/gen16.py) -/
set_option maxRecDepth 100000 in
theorem kl2000 : (List.range 100).all (fun i => chk 334 (2000 + i)) = true := by decide +kernel
set_option maxRecDepth 100000 in
theorem kl2100 : (List.range 100).all (fun i => chk 334 (2100 + i)) = true := by decide +kernel
set_option maxRecDepth 100000 in
theorem kl2200 : (List.range 100).all (fun i => chk 334 (2200 + i)) = true := by decide +kernel
set_option maxRecDepth 100000 in
theorem kl2300 : (List.range 100).all (fun i => chk 334 (2300 + i)) = true := by decide +kernel
set_option maxRecDepth 100000 in
theorem kl2400 : (List.range 100).all (fun i => chk 334 (2400 + i)) = true := by decide +kernel
set_option maxRecDepth 100000 in
theorem kl2500 : (List.range 100).all (fun i => chk 334 (2500 + i)) = true := by decide +kernel
set_option maxRecDepth 100000 in
theorem kl2600 : (List.range 100).all (fun i => chk 334 (2600 + i)) = true := by decide +kernel
set_option maxRecDepth 100000 in
theorem kl2700 : (List.range 41).all (fun i => chk 334 (2700 + i)) = true := by decide +kernel
theorem kl_at {a n p : Nat} (h : (List.range n).all (fun i => chk 334 (a + i)) = true) (h1 : a ≤ p) (h2 : p < a + n) : chk 334 p = true := by
  have h3 := List.all_eq_true.mp h (p - a) (List.mem_range.mpr (by omega))
  rwa [Nat.add_sub_cancel' h1] at h3
theorem k334 : ∀ p, chk 334 p = true := fun p => by
  cases hb : Nat.ble p 2740 with
  | false =>
    have h2 : tb 334 p = iD := by show cond (Nat.ble p 2740) _ iD = iD; rw [hb]; rfl
    unfold chk
    rw [h2]
    rfl
  | true =>
    have hp := Nat.le_of_ble_eq_true hb
    by_cases h0 : p < 100
    · exact kl_at kl0 (by omega) (by omega)
    by_cases h100 : p < 200
    · exact kl_at kl100 (by omega) (by omega)
    by_cases h200 : p < 300
    · exact kl_at kl200 (by omega) (by omega)
    by_cases h300 : p < 400
    · exact kl_at kl300 (by omega) (by omega)
    by_cases h400 : p < 500
    · exact kl_at kl400 (by omega) (by omega)
    by_cases h500 : p < 600
    · exact kl_at kl500 (by omega) (by omega)
    by_cases h600 : p < 700
    · exact kl_at kl600 (by omega) (by omega)
    by_cases h700 : p < 800
    · exact kl_at kl700 (by omega) (by omega)
    by_cases h800 : p < 900
    · exact kl_at kl800 (by omega) (by omega)
    by_cases h900 : p < 1000
    · exact kl_at kl900 (by omega) (by omega)
    by_cases h1000 : p < 1100
    · exact kl_at kl1000 (by omega) (by omega)
    by_cases h1100 : p < 1200
    · exact kl_at kl1100 (by omega) (by omega)
    by_cases h1200 : p < 1300
    · exact kl_at kl1200 (by omega) (by omega)
    by_cases h1300 : p < 1400
    · exact kl_at kl1300 (by omega) (by omega)
    by_cases h1400 : p < 1500
    · exact kl_at kl1400 (by omega) (by omega)
    by_cases h1500 : p < 1600
    · exact kl_at kl1500 (by omega) (by omega)
    by_cases h1600 : p < 1700
    · exact kl_at kl1600 (by omega) (by omega)
    by_cases h1700 : p < 1800
    · exact kl_at kl1700 (by omega) (by omega)
    by_cases h1800 : p < 1900
    · exact kl_at kl1800 (by omega) (by omega)
    by_cases h1900 : p < 2000
    · exact kl_at kl1900 (by omega) (by omega)
    by_cases h2000 : p < 2100
    · exact kl_at kl2000 (by omega) (by omega)
    by_cases h2100 : p < 2200
    · exact kl_at kl2100 (by omega) (by omega)
    by_cases h2200 : p < 2300
    · exact kl_at kl2200 (by omega) (by omega)
    by_cases h2300 : p < 2400
    · exact kl_at kl2300 (by omega) (by omega)
    by_cases h2400 : p < 2500
    · exact kl_at kl2400 (by omega) (by omega)
    by_cases h2500 : p < 2600
    · exact kl_at kl2500 (by omega) (by omega)
    by_cases h2600 : p < 2700
    · exact kl_at kl2600 (by omega) (by omega)
    by_cases h2700 : p < 2741
    · exact kl_at kl2700 (by omega) (by omega)
    omega
