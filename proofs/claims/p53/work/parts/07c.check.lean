/-! the tables tell the code: every method (printed by wip/p53/gen16.py) -/
set_option maxRecDepth 100000 in
theorem k0 : ∀ p, chk 0 p = true := chk_by (h := 52) (by decide +kernel) (fun p h => by show cond (Nat.ble p 52) _ iD = iD; rw [h]; rfl)
set_option maxRecDepth 100000 in
theorem k1 : ∀ p, chk 1 p = true := chk_by (h := 58) (by decide +kernel) (fun p h => by show cond (Nat.ble p 58) _ iD = iD; rw [h]; rfl)
set_option maxRecDepth 100000 in
theorem k2 : ∀ p, chk 2 p = true := chk_by (h := 90) (by decide +kernel) (fun p h => by show cond (Nat.ble p 90) _ iD = iD; rw [h]; rfl)
set_option maxRecDepth 100000 in
theorem k6 : ∀ p, chk 6 p = true := chk_by (h := 37) (by decide +kernel) (fun p h => by show cond (Nat.ble p 37) _ iD = iD; rw [h]; rfl)
set_option maxRecDepth 100000 in
theorem k7 : ∀ p, chk 7 p = true := chk_by (h := 64) (by decide +kernel) (fun p h => by show cond (Nat.ble p 64) _ iD = iD; rw [h]; rfl)
set_option maxRecDepth 100000 in
theorem k8 : ∀ p, chk 8 p = true := chk_by (h := 23) (by decide +kernel) (fun p h => by show cond (Nat.ble p 23) _ iD = iD; rw [h]; rfl)
set_option maxRecDepth 100000 in
theorem k9 : ∀ p, chk 9 p = true := chk_by (h := 10) (by decide +kernel) (fun p h => by show cond (Nat.ble p 10) _ iD = iD; rw [h]; rfl)
set_option maxRecDepth 100000 in
theorem k10 : ∀ p, chk 10 p = true := chk_by (h := 34) (by decide +kernel) (fun p h => by show cond (Nat.ble p 34) _ iD = iD; rw [h]; rfl)
set_option maxRecDepth 100000 in
theorem k11 : ∀ p, chk 11 p = true := chk_by (h := 124) (by decide +kernel) (fun p h => by show cond (Nat.ble p 124) _ iD = iD; rw [h]; rfl)
set_option maxRecDepth 100000 in
theorem k13 : ∀ p, chk 13 p = true := chk_by (h := 51) (by decide +kernel) (fun p h => by show cond (Nat.ble p 51) _ iD = iD; rw [h]; rfl)
set_option maxRecDepth 100000 in
theorem k14 : ∀ p, chk 14 p = true := chk_by (h := 53) (by decide +kernel) (fun p h => by show cond (Nat.ble p 53) _ iD = iD; rw [h]; rfl)
set_option maxRecDepth 100000 in
theorem k15 : ∀ p, chk 15 p = true := chk_by (h := 52) (by decide +kernel) (fun p h => by show cond (Nat.ble p 52) _ iD = iD; rw [h]; rfl)
set_option maxRecDepth 100000 in
theorem k16 : ∀ p, chk 16 p = true := chk_by (h := 18) (by decide +kernel) (fun p h => by show cond (Nat.ble p 18) _ iD = iD; rw [h]; rfl)
set_option maxRecDepth 100000 in
theorem k17 : ∀ p, chk 17 p = true := chk_by (h := 46) (by decide +kernel) (fun p h => by show cond (Nat.ble p 46) _ iD = iD; rw [h]; rfl)
set_option maxRecDepth 100000 in
theorem k18 : ∀ p, chk 18 p = true := chk_by (h := 26) (by decide +kernel) (fun p h => by show cond (Nat.ble p 26) _ iD = iD; rw [h]; rfl)
set_option maxRecDepth 100000 in
theorem k19 : ∀ p, chk 19 p = true := chk_by (h := 23) (by decide +kernel) (fun p h => by show cond (Nat.ble p 23) _ iD = iD; rw [h]; rfl)
set_option maxRecDepth 100000 in
theorem k20 : ∀ p, chk 20 p = true := chk_by (h := 23) (by decide +kernel) (fun p h => by show cond (Nat.ble p 23) _ iD = iD; rw [h]; rfl)
set_option maxRecDepth 100000 in
theorem k21 : ∀ p, chk 21 p = true := chk_by (h := 23) (by decide +kernel) (fun p h => by show cond (Nat.ble p 23) _ iD = iD; rw [h]; rfl)
set_option maxRecDepth 100000 in
theorem k23 : ∀ p, chk 23 p = true := chk_by (h := 31) (by decide +kernel) (fun p h => by show cond (Nat.ble p 31) _ iD = iD; rw [h]; rfl)
set_option maxRecDepth 100000 in
theorem k24 : ∀ p, chk 24 p = true := chk_by (h := 48) (by decide +kernel) (fun p h => by show cond (Nat.ble p 48) _ iD = iD; rw [h]; rfl)
set_option maxRecDepth 100000 in
theorem k25 : ∀ p, chk 25 p = true := chk_by (h := 116) (by decide +kernel) (fun p h => by show cond (Nat.ble p 116) _ iD = iD; rw [h]; rfl)
set_option maxRecDepth 100000 in
theorem k26 : ∀ p, chk 26 p = true := chk_by (h := 68) (by decide +kernel) (fun p h => by show cond (Nat.ble p 68) _ iD = iD; rw [h]; rfl)
set_option maxRecDepth 100000 in
theorem k27 : ∀ p, chk 27 p = true := chk_by (h := 100) (by decide +kernel) (fun p h => by show cond (Nat.ble p 100) _ iD = iD; rw [h]; rfl)
set_option maxRecDepth 100000 in
theorem k28 : ∀ p, chk 28 p = true := chk_by (h := 24) (by decide +kernel) (fun p h => by show cond (Nat.ble p 24) _ iD = iD; rw [h]; rfl)
set_option maxRecDepth 100000 in
theorem k30 : ∀ p, chk 30 p = true := chk_by (h := 68) (by decide +kernel) (fun p h => by show cond (Nat.ble p 68) _ iD = iD; rw [h]; rfl)
set_option maxRecDepth 100000 in
theorem k31 : ∀ p, chk 31 p = true := chk_by (h := 73) (by decide +kernel) (fun p h => by show cond (Nat.ble p 73) _ iD = iD; rw [h]; rfl)
set_option maxRecDepth 100000 in
theorem k32 : ∀ p, chk 32 p = true := chk_by (h := 61) (by decide +kernel) (fun p h => by show cond (Nat.ble p 61) _ iD = iD; rw [h]; rfl)
set_option maxRecDepth 100000 in
theorem k33 : ∀ p, chk 33 p = true := chk_by (h := 26) (by decide +kernel) (fun p h => by show cond (Nat.ble p 26) _ iD = iD; rw [h]; rfl)
set_option maxRecDepth 100000 in
theorem k34 : ∀ p, chk 34 p = true := chk_by (h := 10) (by decide +kernel) (fun p h => by show cond (Nat.ble p 10) _ iD = iD; rw [h]; rfl)
set_option maxRecDepth 100000 in
theorem k35 : ∀ p, chk 35 p = true := chk_by (h := 49) (by decide +kernel) (fun p h => by show cond (Nat.ble p 49) _ iD = iD; rw [h]; rfl)
set_option maxRecDepth 100000 in
theorem k36 : ∀ p, chk 36 p = true := chk_by (h := 94) (by decide +kernel) (fun p h => by show cond (Nat.ble p 94) _ iD = iD; rw [h]; rfl)
set_option maxRecDepth 100000 in
theorem k37 : ∀ p, chk 37 p = true := chk_by (h := 64) (by decide +kernel) (fun p h => by show cond (Nat.ble p 64) _ iD = iD; rw [h]; rfl)
set_option maxRecDepth 100000 in
theorem k38 : ∀ p, chk 38 p = true := chk_by (h := 31) (by decide +kernel) (fun p h => by show cond (Nat.ble p 31) _ iD = iD; rw [h]; rfl)
set_option maxRecDepth 100000 in
theorem k39 : ∀ p, chk 39 p = true := chk_by (h := 24) (by decide +kernel) (fun p h => by show cond (Nat.ble p 24) _ iD = iD; rw [h]; rfl)
set_option maxRecDepth 100000 in
theorem k40 : ∀ p, chk 40 p = true := chk_by (h := 20) (by decide +kernel) (fun p h => by show cond (Nat.ble p 20) _ iD = iD; rw [h]; rfl)
set_option maxRecDepth 100000 in
theorem k41 : ∀ p, chk 41 p = true := chk_by (h := 21) (by decide +kernel) (fun p h => by show cond (Nat.ble p 21) _ iD = iD; rw [h]; rfl)
set_option maxRecDepth 100000 in
theorem k42 : ∀ p, chk 42 p = true := chk_by (h := 46) (by decide +kernel) (fun p h => by show cond (Nat.ble p 46) _ iD = iD; rw [h]; rfl)
set_option maxRecDepth 100000 in
theorem k43 : ∀ p, chk 43 p = true := chk_by (h := 18) (by decide +kernel) (fun p h => by show cond (Nat.ble p 18) _ iD = iD; rw [h]; rfl)
set_option maxRecDepth 100000 in
theorem k44 : ∀ p, chk 44 p = true := chk_by (h := 14) (by decide +kernel) (fun p h => by show cond (Nat.ble p 14) _ iD = iD; rw [h]; rfl)
set_option maxRecDepth 100000 in
theorem k45 : ∀ p, chk 45 p = true := chk_by (h := 29) (by decide +kernel) (fun p h => by show cond (Nat.ble p 29) _ iD = iD; rw [h]; rfl)
set_option maxRecDepth 100000 in
theorem k50 : ∀ p, chk 50 p = true := chk_by (h := 84) (by decide +kernel) (fun p h => by show cond (Nat.ble p 84) _ iD = iD; rw [h]; rfl)
set_option maxRecDepth 100000 in
theorem k51 : ∀ p, chk 51 p = true := chk_by (h := 79) (by decide +kernel) (fun p h => by show cond (Nat.ble p 79) _ iD = iD; rw [h]; rfl)
set_option maxRecDepth 100000 in
theorem k52 : ∀ p, chk 52 p = true := chk_by (h := 26) (by decide +kernel) (fun p h => by show cond (Nat.ble p 26) _ iD = iD; rw [h]; rfl)
set_option maxRecDepth 100000 in
theorem k53 : ∀ p, chk 53 p = true := chk_by (h := 37) (by decide +kernel) (fun p h => by show cond (Nat.ble p 37) _ iD = iD; rw [h]; rfl)
set_option maxRecDepth 100000 in
theorem k54 : ∀ p, chk 54 p = true := chk_by (h := 38) (by decide +kernel) (fun p h => by show cond (Nat.ble p 38) _ iD = iD; rw [h]; rfl)
set_option maxRecDepth 100000 in
theorem k55 : ∀ p, chk 55 p = true := chk_by (h := 50) (by decide +kernel) (fun p h => by show cond (Nat.ble p 50) _ iD = iD; rw [h]; rfl)
set_option maxRecDepth 100000 in
theorem k56 : ∀ p, chk 56 p = true := chk_by (h := 30) (by decide +kernel) (fun p h => by show cond (Nat.ble p 30) _ iD = iD; rw [h]; rfl)
set_option maxRecDepth 100000 in
theorem k57 : ∀ p, chk 57 p = true := chk_by (h := 30) (by decide +kernel) (fun p h => by show cond (Nat.ble p 30) _ iD = iD; rw [h]; rfl)
set_option maxRecDepth 100000 in
theorem k58 : ∀ p, chk 58 p = true := chk_by (h := 42) (by decide +kernel) (fun p h => by show cond (Nat.ble p 42) _ iD = iD; rw [h]; rfl)
set_option maxRecDepth 100000 in
theorem k59 : ∀ p, chk 59 p = true := chk_by (h := 123) (by decide +kernel) (fun p h => by show cond (Nat.ble p 123) _ iD = iD; rw [h]; rfl)
set_option maxRecDepth 100000 in
theorem k60 : ∀ p, chk 60 p = true := chk_by (h := 17) (by decide +kernel) (fun p h => by show cond (Nat.ble p 17) _ iD = iD; rw [h]; rfl)
set_option maxRecDepth 100000 in
theorem k61 : ∀ p, chk 61 p = true := chk_by (h := 25) (by decide +kernel) (fun p h => by show cond (Nat.ble p 25) _ iD = iD; rw [h]; rfl)
set_option maxRecDepth 100000 in
theorem k62 : ∀ p, chk 62 p = true := chk_by (h := 178) (by decide +kernel) (fun p h => by show cond (Nat.ble p 178) _ iD = iD; rw [h]; rfl)
set_option maxRecDepth 100000 in
theorem k63 : ∀ p, chk 63 p = true := chk_by (h := 86) (by decide +kernel) (fun p h => by show cond (Nat.ble p 86) _ iD = iD; rw [h]; rfl)
set_option maxRecDepth 100000 in
theorem k64 : ∀ p, chk 64 p = true := chk_by (h := 62) (by decide +kernel) (fun p h => by show cond (Nat.ble p 62) _ iD = iD; rw [h]; rfl)
set_option maxRecDepth 100000 in
theorem k65 : ∀ p, chk 65 p = true := chk_by (h := 169) (by decide +kernel) (fun p h => by show cond (Nat.ble p 169) _ iD = iD; rw [h]; rfl)
set_option maxRecDepth 100000 in
theorem k66 : ∀ p, chk 66 p = true := chk_by (h := 170) (by decide +kernel) (fun p h => by show cond (Nat.ble p 170) _ iD = iD; rw [h]; rfl)
set_option maxRecDepth 100000 in
theorem k67 : ∀ p, chk 67 p = true := chk_by (h := 117) (by decide +kernel) (fun p h => by show cond (Nat.ble p 117) _ iD = iD; rw [h]; rfl)
set_option maxRecDepth 100000 in
theorem k68 : ∀ p, chk 68 p = true := chk_by (h := 86) (by decide +kernel) (fun p h => by show cond (Nat.ble p 86) _ iD = iD; rw [h]; rfl)
set_option maxRecDepth 100000 in
theorem k69 : ∀ p, chk 69 p = true := chk_by (h := 52) (by decide +kernel) (fun p h => by show cond (Nat.ble p 52) _ iD = iD; rw [h]; rfl)
