/-! the tables tell the code: every method (printed by wip/whole/gen16.py) -/
set_option maxRecDepth 100000 in
theorem k0 : ∀ p, chk 0 p = true := chk_by (h := 52) (by decide +kernel) (fun p h => by show cond (Nat.ble p 52) _ iD = iD; rw [h]; rfl)
set_option maxRecDepth 100000 in
theorem k1 : ∀ p, chk 1 p = true := chk_by (h := 58) (by decide +kernel) (fun p h => by show cond (Nat.ble p 58) _ iD = iD; rw [h]; rfl)
set_option maxRecDepth 100000 in
theorem k2 : ∀ p, chk 2 p = true := chk_by (h := 90) (by decide +kernel) (fun p h => by show cond (Nat.ble p 90) _ iD = iD; rw [h]; rfl)
set_option maxRecDepth 100000 in
theorem k3 : ∀ p, chk 3 p = true := chk_by (h := 13) (by decide +kernel) (fun p h => by show cond (Nat.ble p 13) _ iD = iD; rw [h]; rfl)
set_option maxRecDepth 100000 in
theorem k4 : ∀ p, chk 4 p = true := chk_by (h := 19) (by decide +kernel) (fun p h => by show cond (Nat.ble p 19) _ iD = iD; rw [h]; rfl)
set_option maxRecDepth 100000 in
theorem k5 : ∀ p, chk 5 p = true := chk_by (h := 40) (by decide +kernel) (fun p h => by show cond (Nat.ble p 40) _ iD = iD; rw [h]; rfl)
set_option maxRecDepth 100000 in
theorem k6 : ∀ p, chk 6 p = true := chk_by (h := 37) (by decide +kernel) (fun p h => by show cond (Nat.ble p 37) _ iD = iD; rw [h]; rfl)
set_option maxRecDepth 100000 in
theorem k7 : ∀ p, chk 7 p = true := chk_by (h := 64) (by decide +kernel) (fun p h => by show cond (Nat.ble p 64) _ iD = iD; rw [h]; rfl)
set_option maxRecDepth 100000 in
theorem k8 : ∀ p, chk 8 p = true := chk_by (h := 23) (by decide +kernel) (fun p h => by show cond (Nat.ble p 23) _ iD = iD; rw [h]; rfl)
set_option maxRecDepth 100000 in
theorem k9 : ∀ p, chk 9 p = true := chk_by (h := 10) (by decide +kernel) (fun p h => by show cond (Nat.ble p 10) _ iD = iD; rw [h]; rfl)
set_option maxRecDepth 100000 in
theorem k10 : ∀ p, chk 10 p = true := chk_by (h := 34) (by decide +kernel) (fun p h => by show cond (Nat.ble p 34) _ iD = iD; rw [h]; rfl)
set_option maxRecDepth 100000 in
theorem k11 : ∀ p, chk 11 p = true := chk_by (h := 124) (by decide +kernel) (fun p h => by show cond (Nat.ble p 124) _ iD = iD; rw [h]; rfl)
set_option maxRecDepth 100000 in
theorem k12 : ∀ p, chk 12 p = true := chk_by (h := 34) (by decide +kernel) (fun p h => by show cond (Nat.ble p 34) _ iD = iD; rw [h]; rfl)
set_option maxRecDepth 100000 in
theorem k13 : ∀ p, chk 13 p = true := chk_by (h := 51) (by decide +kernel) (fun p h => by show cond (Nat.ble p 51) _ iD = iD; rw [h]; rfl)
set_option maxRecDepth 100000 in
theorem k14 : ∀ p, chk 14 p = true := chk_by (h := 53) (by decide +kernel) (fun p h => by show cond (Nat.ble p 53) _ iD = iD; rw [h]; rfl)
set_option maxRecDepth 100000 in
theorem k15 : ∀ p, chk 15 p = true := chk_by (h := 52) (by decide +kernel) (fun p h => by show cond (Nat.ble p 52) _ iD = iD; rw [h]; rfl)
set_option maxRecDepth 100000 in
theorem k16 : ∀ p, chk 16 p = true := chk_by (h := 18) (by decide +kernel) (fun p h => by show cond (Nat.ble p 18) _ iD = iD; rw [h]; rfl)
set_option maxRecDepth 100000 in
theorem k17 : ∀ p, chk 17 p = true := chk_by (h := 46) (by decide +kernel) (fun p h => by show cond (Nat.ble p 46) _ iD = iD; rw [h]; rfl)
set_option maxRecDepth 100000 in
theorem k18 : ∀ p, chk 18 p = true := chk_by (h := 26) (by decide +kernel) (fun p h => by show cond (Nat.ble p 26) _ iD = iD; rw [h]; rfl)
set_option maxRecDepth 100000 in
theorem k19 : ∀ p, chk 19 p = true := chk_by (h := 23) (by decide +kernel) (fun p h => by show cond (Nat.ble p 23) _ iD = iD; rw [h]; rfl)
set_option maxRecDepth 100000 in
theorem k20 : ∀ p, chk 20 p = true := chk_by (h := 23) (by decide +kernel) (fun p h => by show cond (Nat.ble p 23) _ iD = iD; rw [h]; rfl)
set_option maxRecDepth 100000 in
theorem k21 : ∀ p, chk 21 p = true := chk_by (h := 23) (by decide +kernel) (fun p h => by show cond (Nat.ble p 23) _ iD = iD; rw [h]; rfl)
set_option maxRecDepth 100000 in
theorem k22 : ∀ p, chk 22 p = true := chk_by (h := 58) (by decide +kernel) (fun p h => by show cond (Nat.ble p 58) _ iD = iD; rw [h]; rfl)
set_option maxRecDepth 100000 in
theorem k23 : ∀ p, chk 23 p = true := chk_by (h := 31) (by decide +kernel) (fun p h => by show cond (Nat.ble p 31) _ iD = iD; rw [h]; rfl)
set_option maxRecDepth 100000 in
theorem k24 : ∀ p, chk 24 p = true := chk_by (h := 48) (by decide +kernel) (fun p h => by show cond (Nat.ble p 48) _ iD = iD; rw [h]; rfl)
set_option maxRecDepth 100000 in
theorem k25 : ∀ p, chk 25 p = true := chk_by (h := 116) (by decide +kernel) (fun p h => by show cond (Nat.ble p 116) _ iD = iD; rw [h]; rfl)
set_option maxRecDepth 100000 in
theorem k26 : ∀ p, chk 26 p = true := chk_by (h := 68) (by decide +kernel) (fun p h => by show cond (Nat.ble p 68) _ iD = iD; rw [h]; rfl)
set_option maxRecDepth 100000 in
theorem k27 : ∀ p, chk 27 p = true := chk_by (h := 100) (by decide +kernel) (fun p h => by show cond (Nat.ble p 100) _ iD = iD; rw [h]; rfl)
set_option maxRecDepth 100000 in
theorem k28 : ∀ p, chk 28 p = true := chk_by (h := 24) (by decide +kernel) (fun p h => by show cond (Nat.ble p 24) _ iD = iD; rw [h]; rfl)
set_option maxRecDepth 100000 in
theorem k29 : ∀ p, chk 29 p = true := chk_by (h := 55) (by decide +kernel) (fun p h => by show cond (Nat.ble p 55) _ iD = iD; rw [h]; rfl)
set_option maxRecDepth 100000 in
theorem k30 : ∀ p, chk 30 p = true := chk_by (h := 68) (by decide +kernel) (fun p h => by show cond (Nat.ble p 68) _ iD = iD; rw [h]; rfl)
set_option maxRecDepth 100000 in
theorem k31 : ∀ p, chk 31 p = true := chk_by (h := 73) (by decide +kernel) (fun p h => by show cond (Nat.ble p 73) _ iD = iD; rw [h]; rfl)
set_option maxRecDepth 100000 in
theorem k32 : ∀ p, chk 32 p = true := chk_by (h := 61) (by decide +kernel) (fun p h => by show cond (Nat.ble p 61) _ iD = iD; rw [h]; rfl)
set_option maxRecDepth 100000 in
theorem k33 : ∀ p, chk 33 p = true := chk_by (h := 26) (by decide +kernel) (fun p h => by show cond (Nat.ble p 26) _ iD = iD; rw [h]; rfl)
set_option maxRecDepth 100000 in
theorem k34 : ∀ p, chk 34 p = true := chk_by (h := 10) (by decide +kernel) (fun p h => by show cond (Nat.ble p 10) _ iD = iD; rw [h]; rfl)
set_option maxRecDepth 100000 in
theorem k35 : ∀ p, chk 35 p = true := chk_by (h := 49) (by decide +kernel) (fun p h => by show cond (Nat.ble p 49) _ iD = iD; rw [h]; rfl)
set_option maxRecDepth 100000 in
theorem k36 : ∀ p, chk 36 p = true := chk_by (h := 94) (by decide +kernel) (fun p h => by show cond (Nat.ble p 94) _ iD = iD; rw [h]; rfl)
set_option maxRecDepth 100000 in
theorem k37 : ∀ p, chk 37 p = true := chk_by (h := 64) (by decide +kernel) (fun p h => by show cond (Nat.ble p 64) _ iD = iD; rw [h]; rfl)
set_option maxRecDepth 100000 in
theorem k38 : ∀ p, chk 38 p = true := chk_by (h := 31) (by decide +kernel) (fun p h => by show cond (Nat.ble p 31) _ iD = iD; rw [h]; rfl)
set_option maxRecDepth 100000 in
theorem k39 : ∀ p, chk 39 p = true := chk_by (h := 24) (by decide +kernel) (fun p h => by show cond (Nat.ble p 24) _ iD = iD; rw [h]; rfl)
set_option maxRecDepth 100000 in
theorem k40 : ∀ p, chk 40 p = true := chk_by (h := 20) (by decide +kernel) (fun p h => by show cond (Nat.ble p 20) _ iD = iD; rw [h]; rfl)
set_option maxRecDepth 100000 in
theorem k41 : ∀ p, chk 41 p = true := chk_by (h := 21) (by decide +kernel) (fun p h => by show cond (Nat.ble p 21) _ iD = iD; rw [h]; rfl)
set_option maxRecDepth 100000 in
theorem k42 : ∀ p, chk 42 p = true := chk_by (h := 46) (by decide +kernel) (fun p h => by show cond (Nat.ble p 46) _ iD = iD; rw [h]; rfl)
set_option maxRecDepth 100000 in
theorem k43 : ∀ p, chk 43 p = true := chk_by (h := 18) (by decide +kernel) (fun p h => by show cond (Nat.ble p 18) _ iD = iD; rw [h]; rfl)
set_option maxRecDepth 100000 in
theorem k44 : ∀ p, chk 44 p = true := chk_by (h := 14) (by decide +kernel) (fun p h => by show cond (Nat.ble p 14) _ iD = iD; rw [h]; rfl)
set_option maxRecDepth 100000 in
theorem k45 : ∀ p, chk 45 p = true := chk_by (h := 29) (by decide +kernel) (fun p h => by show cond (Nat.ble p 29) _ iD = iD; rw [h]; rfl)
set_option maxRecDepth 100000 in
theorem k46 : ∀ p, chk 46 p = true := chk_by (h := 65) (by decide +kernel) (fun p h => by show cond (Nat.ble p 65) _ iD = iD; rw [h]; rfl)
set_option maxRecDepth 100000 in
theorem k47 : ∀ p, chk 47 p = true := chk_by (h := 107) (by decide +kernel) (fun p h => by show cond (Nat.ble p 107) _ iD = iD; rw [h]; rfl)
set_option maxRecDepth 100000 in
theorem k48 : ∀ p, chk 48 p = true := chk_by (h := 14) (by decide +kernel) (fun p h => by show cond (Nat.ble p 14) _ iD = iD; rw [h]; rfl)
set_option maxRecDepth 100000 in
theorem k49 : ∀ p, chk 49 p = true := chk_by (h := 31) (by decide +kernel) (fun p h => by show cond (Nat.ble p 31) _ iD = iD; rw [h]; rfl)
set_option maxRecDepth 100000 in
theorem k50 : ∀ p, chk 50 p = true := chk_by (h := 84) (by decide +kernel) (fun p h => by show cond (Nat.ble p 84) _ iD = iD; rw [h]; rfl)
set_option maxRecDepth 100000 in
theorem k51 : ∀ p, chk 51 p = true := chk_by (h := 79) (by decide +kernel) (fun p h => by show cond (Nat.ble p 79) _ iD = iD; rw [h]; rfl)
set_option maxRecDepth 100000 in
theorem k52 : ∀ p, chk 52 p = true := chk_by (h := 26) (by decide +kernel) (fun p h => by show cond (Nat.ble p 26) _ iD = iD; rw [h]; rfl)
set_option maxRecDepth 100000 in
theorem k53 : ∀ p, chk 53 p = true := chk_by (h := 37) (by decide +kernel) (fun p h => by show cond (Nat.ble p 37) _ iD = iD; rw [h]; rfl)
set_option maxRecDepth 100000 in
theorem k54 : ∀ p, chk 54 p = true := chk_by (h := 38) (by decide +kernel) (fun p h => by show cond (Nat.ble p 38) _ iD = iD; rw [h]; rfl)
set_option maxRecDepth 100000 in
theorem k55 : ∀ p, chk 55 p = true := chk_by (h := 50) (by decide +kernel) (fun p h => by show cond (Nat.ble p 50) _ iD = iD; rw [h]; rfl)
set_option maxRecDepth 100000 in
theorem k56 : ∀ p, chk 56 p = true := chk_by (h := 30) (by decide +kernel) (fun p h => by show cond (Nat.ble p 30) _ iD = iD; rw [h]; rfl)
set_option maxRecDepth 100000 in
theorem k57 : ∀ p, chk 57 p = true := chk_by (h := 30) (by decide +kernel) (fun p h => by show cond (Nat.ble p 30) _ iD = iD; rw [h]; rfl)
set_option maxRecDepth 100000 in
theorem k58 : ∀ p, chk 58 p = true := chk_by (h := 42) (by decide +kernel) (fun p h => by show cond (Nat.ble p 42) _ iD = iD; rw [h]; rfl)
set_option maxRecDepth 100000 in
theorem k59 : ∀ p, chk 59 p = true := chk_by (h := 123) (by decide +kernel) (fun p h => by show cond (Nat.ble p 123) _ iD = iD; rw [h]; rfl)
set_option maxRecDepth 100000 in
theorem k60 : ∀ p, chk 60 p = true := chk_by (h := 17) (by decide +kernel) (fun p h => by show cond (Nat.ble p 17) _ iD = iD; rw [h]; rfl)
set_option maxRecDepth 100000 in
theorem k61 : ∀ p, chk 61 p = true := chk_by (h := 25) (by decide +kernel) (fun p h => by show cond (Nat.ble p 25) _ iD = iD; rw [h]; rfl)
set_option maxRecDepth 100000 in
theorem k62 : ∀ p, chk 62 p = true := chk_by (h := 178) (by decide +kernel) (fun p h => by show cond (Nat.ble p 178) _ iD = iD; rw [h]; rfl)
set_option maxRecDepth 100000 in
theorem k63 : ∀ p, chk 63 p = true := chk_by (h := 86) (by decide +kernel) (fun p h => by show cond (Nat.ble p 86) _ iD = iD; rw [h]; rfl)
set_option maxRecDepth 100000 in
theorem k64 : ∀ p, chk 64 p = true := chk_by (h := 62) (by decide +kernel) (fun p h => by show cond (Nat.ble p 62) _ iD = iD; rw [h]; rfl)
set_option maxRecDepth 100000 in
theorem k65 : ∀ p, chk 65 p = true := chk_by (h := 169) (by decide +kernel) (fun p h => by show cond (Nat.ble p 169) _ iD = iD; rw [h]; rfl)
set_option maxRecDepth 100000 in
theorem k66 : ∀ p, chk 66 p = true := chk_by (h := 170) (by decide +kernel) (fun p h => by show cond (Nat.ble p 170) _ iD = iD; rw [h]; rfl)
set_option maxRecDepth 100000 in
theorem k67 : ∀ p, chk 67 p = true := chk_by (h := 117) (by decide +kernel) (fun p h => by show cond (Nat.ble p 117) _ iD = iD; rw [h]; rfl)
set_option maxRecDepth 100000 in
theorem k68 : ∀ p, chk 68 p = true := chk_by (h := 86) (by decide +kernel) (fun p h => by show cond (Nat.ble p 86) _ iD = iD; rw [h]; rfl)
set_option maxRecDepth 100000 in
theorem k69 : ∀ p, chk 69 p = true := chk_by (h := 52) (by decide +kernel) (fun p h => by show cond (Nat.ble p 52) _ iD = iD; rw [h]; rfl)
set_option maxRecDepth 100000 in
theorem k70 : ∀ p, chk 70 p = true := chk_by (h := 121) (by decide +kernel) (fun p h => by show cond (Nat.ble p 121) _ iD = iD; rw [h]; rfl)
set_option maxRecDepth 100000 in
theorem k71 : ∀ p, chk 71 p = true := chk_by (h := 152) (by decide +kernel) (fun p h => by show cond (Nat.ble p 152) _ iD = iD; rw [h]; rfl)
set_option maxRecDepth 100000 in
theorem k72 : ∀ p, chk 72 p = true := chk_by (h := 181) (by decide +kernel) (fun p h => by show cond (Nat.ble p 181) _ iD = iD; rw [h]; rfl)
set_option maxRecDepth 100000 in
theorem k73 : ∀ p, chk 73 p = true := chk_by (h := 26) (by decide +kernel) (fun p h => by show cond (Nat.ble p 26) _ iD = iD; rw [h]; rfl)
set_option maxRecDepth 100000 in
theorem k74 : ∀ p, chk 74 p = true := chk_by (h := 16) (by decide +kernel) (fun p h => by show cond (Nat.ble p 16) _ iD = iD; rw [h]; rfl)
set_option maxRecDepth 100000 in
theorem k75 : ∀ p, chk 75 p = true := chk_by (h := 21) (by decide +kernel) (fun p h => by show cond (Nat.ble p 21) _ iD = iD; rw [h]; rfl)
set_option maxRecDepth 100000 in
theorem k76 : ∀ p, chk 76 p = true := chk_by (h := 51) (by decide +kernel) (fun p h => by show cond (Nat.ble p 51) _ iD = iD; rw [h]; rfl)
set_option maxRecDepth 100000 in
theorem k77 : ∀ p, chk 77 p = true := chk_by (h := 41) (by decide +kernel) (fun p h => by show cond (Nat.ble p 41) _ iD = iD; rw [h]; rfl)
set_option maxRecDepth 100000 in
theorem k78 : ∀ p, chk 78 p = true := chk_by (h := 72) (by decide +kernel) (fun p h => by show cond (Nat.ble p 72) _ iD = iD; rw [h]; rfl)
set_option maxRecDepth 100000 in
theorem k79 : ∀ p, chk 79 p = true := chk_by (h := 31) (by decide +kernel) (fun p h => by show cond (Nat.ble p 31) _ iD = iD; rw [h]; rfl)
set_option maxRecDepth 100000 in
theorem k80 : ∀ p, chk 80 p = true := chk_by (h := 91) (by decide +kernel) (fun p h => by show cond (Nat.ble p 91) _ iD = iD; rw [h]; rfl)
set_option maxRecDepth 100000 in
theorem k81 : ∀ p, chk 81 p = true := chk_by (h := 34) (by decide +kernel) (fun p h => by show cond (Nat.ble p 34) _ iD = iD; rw [h]; rfl)
set_option maxRecDepth 100000 in
theorem k82 : ∀ p, chk 82 p = true := chk_by (h := 31) (by decide +kernel) (fun p h => by show cond (Nat.ble p 31) _ iD = iD; rw [h]; rfl)
set_option maxRecDepth 100000 in
theorem k83 : ∀ p, chk 83 p = true := chk_by (h := 42) (by decide +kernel) (fun p h => by show cond (Nat.ble p 42) _ iD = iD; rw [h]; rfl)
set_option maxRecDepth 100000 in
theorem k84 : ∀ p, chk 84 p = true := chk_by (h := 29) (by decide +kernel) (fun p h => by show cond (Nat.ble p 29) _ iD = iD; rw [h]; rfl)
set_option maxRecDepth 100000 in
theorem k85 : ∀ p, chk 85 p = true := chk_by (h := 18) (by decide +kernel) (fun p h => by show cond (Nat.ble p 18) _ iD = iD; rw [h]; rfl)
set_option maxRecDepth 100000 in
theorem k86 : ∀ p, chk 86 p = true := chk_by (h := 77) (by decide +kernel) (fun p h => by show cond (Nat.ble p 77) _ iD = iD; rw [h]; rfl)
set_option maxRecDepth 100000 in
theorem k87 : ∀ p, chk 87 p = true := chk_by (h := 18) (by decide +kernel) (fun p h => by show cond (Nat.ble p 18) _ iD = iD; rw [h]; rfl)
set_option maxRecDepth 100000 in
theorem k88 : ∀ p, chk 88 p = true := chk_by (h := 33) (by decide +kernel) (fun p h => by show cond (Nat.ble p 33) _ iD = iD; rw [h]; rfl)
set_option maxRecDepth 100000 in
theorem k89 : ∀ p, chk 89 p = true := chk_by (h := 73) (by decide +kernel) (fun p h => by show cond (Nat.ble p 73) _ iD = iD; rw [h]; rfl)
set_option maxRecDepth 100000 in
theorem k90 : ∀ p, chk 90 p = true := chk_by (h := 68) (by decide +kernel) (fun p h => by show cond (Nat.ble p 68) _ iD = iD; rw [h]; rfl)
set_option maxRecDepth 100000 in
theorem k91 : ∀ p, chk 91 p = true := chk_by (h := 55) (by decide +kernel) (fun p h => by show cond (Nat.ble p 55) _ iD = iD; rw [h]; rfl)
set_option maxRecDepth 100000 in
theorem k92 : ∀ p, chk 92 p = true := chk_by (h := 125) (by decide +kernel) (fun p h => by show cond (Nat.ble p 125) _ iD = iD; rw [h]; rfl)
set_option maxRecDepth 100000 in
theorem k93 : ∀ p, chk 93 p = true := chk_by (h := 24) (by decide +kernel) (fun p h => by show cond (Nat.ble p 24) _ iD = iD; rw [h]; rfl)
set_option maxRecDepth 100000 in
theorem k94 : ∀ p, chk 94 p = true := chk_by (h := 9) (by decide +kernel) (fun p h => by show cond (Nat.ble p 9) _ iD = iD; rw [h]; rfl)
set_option maxRecDepth 100000 in
theorem k95 : ∀ p, chk 95 p = true := chk_by (h := 234) (by decide +kernel) (fun p h => by show cond (Nat.ble p 234) _ iD = iD; rw [h]; rfl)
set_option maxRecDepth 100000 in
theorem k96 : ∀ p, chk 96 p = true := chk_by (h := 9) (by decide +kernel) (fun p h => by show cond (Nat.ble p 9) _ iD = iD; rw [h]; rfl)
set_option maxRecDepth 100000 in
theorem k97 : ∀ p, chk 97 p = true := chk_by (h := 61) (by decide +kernel) (fun p h => by show cond (Nat.ble p 61) _ iD = iD; rw [h]; rfl)
set_option maxRecDepth 100000 in
theorem k98 : ∀ p, chk 98 p = true := chk_by (h := 29) (by decide +kernel) (fun p h => by show cond (Nat.ble p 29) _ iD = iD; rw [h]; rfl)
set_option maxRecDepth 100000 in
theorem k99 : ∀ p, chk 99 p = true := chk_by (h := 158) (by decide +kernel) (fun p h => by show cond (Nat.ble p 158) _ iD = iD; rw [h]; rfl)
set_option maxRecDepth 100000 in
theorem k100 : ∀ p, chk 100 p = true := chk_by (h := 15) (by decide +kernel) (fun p h => by show cond (Nat.ble p 15) _ iD = iD; rw [h]; rfl)
set_option maxRecDepth 100000 in
theorem k101 : ∀ p, chk 101 p = true := chk_by (h := 21) (by decide +kernel) (fun p h => by show cond (Nat.ble p 21) _ iD = iD; rw [h]; rfl)
set_option maxRecDepth 100000 in
theorem k102 : ∀ p, chk 102 p = true := chk_by (h := 39) (by decide +kernel) (fun p h => by show cond (Nat.ble p 39) _ iD = iD; rw [h]; rfl)
set_option maxRecDepth 100000 in
theorem k103 : ∀ p, chk 103 p = true := chk_by (h := 199) (by decide +kernel) (fun p h => by show cond (Nat.ble p 199) _ iD = iD; rw [h]; rfl)
set_option maxRecDepth 100000 in
theorem k104 : ∀ p, chk 104 p = true := chk_by (h := 64) (by decide +kernel) (fun p h => by show cond (Nat.ble p 64) _ iD = iD; rw [h]; rfl)
set_option maxRecDepth 100000 in
theorem k105 : ∀ p, chk 105 p = true := chk_by (h := 26) (by decide +kernel) (fun p h => by show cond (Nat.ble p 26) _ iD = iD; rw [h]; rfl)
set_option maxRecDepth 100000 in
theorem k106 : ∀ p, chk 106 p = true := chk_by (h := 97) (by decide +kernel) (fun p h => by show cond (Nat.ble p 97) _ iD = iD; rw [h]; rfl)
set_option maxRecDepth 100000 in
theorem k107 : ∀ p, chk 107 p = true := chk_by (h := 4) (by decide +kernel) (fun p h => by show cond (Nat.ble p 4) _ iD = iD; rw [h]; rfl)
set_option maxRecDepth 100000 in
theorem k108 : ∀ p, chk 108 p = true := chk_by (h := 4) (by decide +kernel) (fun p h => by show cond (Nat.ble p 4) _ iD = iD; rw [h]; rfl)
set_option maxRecDepth 100000 in
theorem k109 : ∀ p, chk 109 p = true := chk_by (h := 196) (by decide +kernel) (fun p h => by show cond (Nat.ble p 196) _ iD = iD; rw [h]; rfl)
set_option maxRecDepth 100000 in
theorem k110 : ∀ p, chk 110 p = true := chk_by (h := 39) (by decide +kernel) (fun p h => by show cond (Nat.ble p 39) _ iD = iD; rw [h]; rfl)
set_option maxRecDepth 100000 in
theorem k111 : ∀ p, chk 111 p = true := chk_by (h := 205) (by decide +kernel) (fun p h => by show cond (Nat.ble p 205) _ iD = iD; rw [h]; rfl)
set_option maxRecDepth 100000 in
theorem k112 : ∀ p, chk 112 p = true := chk_by (h := 132) (by decide +kernel) (fun p h => by show cond (Nat.ble p 132) _ iD = iD; rw [h]; rfl)
set_option maxRecDepth 100000 in
theorem k113 : ∀ p, chk 113 p = true := chk_by (h := 21) (by decide +kernel) (fun p h => by show cond (Nat.ble p 21) _ iD = iD; rw [h]; rfl)
set_option maxRecDepth 100000 in
theorem k114 : ∀ p, chk 114 p = true := chk_by (h := 14) (by decide +kernel) (fun p h => by show cond (Nat.ble p 14) _ iD = iD; rw [h]; rfl)
set_option maxRecDepth 100000 in
theorem k115 : ∀ p, chk 115 p = true := chk_by (h := 37) (by decide +kernel) (fun p h => by show cond (Nat.ble p 37) _ iD = iD; rw [h]; rfl)
set_option maxRecDepth 100000 in
theorem k116 : ∀ p, chk 116 p = true := chk_by (h := 42) (by decide +kernel) (fun p h => by show cond (Nat.ble p 42) _ iD = iD; rw [h]; rfl)
set_option maxRecDepth 100000 in
theorem k117 : ∀ p, chk 117 p = true := chk_by (h := 10) (by decide +kernel) (fun p h => by show cond (Nat.ble p 10) _ iD = iD; rw [h]; rfl)
set_option maxRecDepth 100000 in
theorem k118 : ∀ p, chk 118 p = true := chk_by (h := 61) (by decide +kernel) (fun p h => by show cond (Nat.ble p 61) _ iD = iD; rw [h]; rfl)
set_option maxRecDepth 100000 in
theorem k119 : ∀ p, chk 119 p = true := chk_by (h := 26) (by decide +kernel) (fun p h => by show cond (Nat.ble p 26) _ iD = iD; rw [h]; rfl)
set_option maxRecDepth 100000 in
theorem k120 : ∀ p, chk 120 p = true := chk_by (h := 33) (by decide +kernel) (fun p h => by show cond (Nat.ble p 33) _ iD = iD; rw [h]; rfl)
set_option maxRecDepth 100000 in
theorem k121 : ∀ p, chk 121 p = true := chk_by (h := 31) (by decide +kernel) (fun p h => by show cond (Nat.ble p 31) _ iD = iD; rw [h]; rfl)
set_option maxRecDepth 100000 in
theorem k122 : ∀ p, chk 122 p = true := chk_by (h := 26) (by decide +kernel) (fun p h => by show cond (Nat.ble p 26) _ iD = iD; rw [h]; rfl)
set_option maxRecDepth 100000 in
theorem k123 : ∀ p, chk 123 p = true := chk_by (h := 67) (by decide +kernel) (fun p h => by show cond (Nat.ble p 67) _ iD = iD; rw [h]; rfl)
set_option maxRecDepth 100000 in
theorem k124 : ∀ p, chk 124 p = true := chk_by (h := 26) (by decide +kernel) (fun p h => by show cond (Nat.ble p 26) _ iD = iD; rw [h]; rfl)
set_option maxRecDepth 100000 in
theorem k125 : ∀ p, chk 125 p = true := chk_by (h := 76) (by decide +kernel) (fun p h => by show cond (Nat.ble p 76) _ iD = iD; rw [h]; rfl)
set_option maxRecDepth 100000 in
theorem k126 : ∀ p, chk 126 p = true := chk_by (h := 19) (by decide +kernel) (fun p h => by show cond (Nat.ble p 19) _ iD = iD; rw [h]; rfl)
set_option maxRecDepth 100000 in
theorem k127 : ∀ p, chk 127 p = true := chk_by (h := 48) (by decide +kernel) (fun p h => by show cond (Nat.ble p 48) _ iD = iD; rw [h]; rfl)
set_option maxRecDepth 100000 in
theorem k128 : ∀ p, chk 128 p = true := chk_by (h := 31) (by decide +kernel) (fun p h => by show cond (Nat.ble p 31) _ iD = iD; rw [h]; rfl)
set_option maxRecDepth 100000 in
theorem k129 : ∀ p, chk 129 p = true := chk_by (h := 107) (by decide +kernel) (fun p h => by show cond (Nat.ble p 107) _ iD = iD; rw [h]; rfl)
set_option maxRecDepth 100000 in
theorem k130 : ∀ p, chk 130 p = true := chk_by (h := 36) (by decide +kernel) (fun p h => by show cond (Nat.ble p 36) _ iD = iD; rw [h]; rfl)
set_option maxRecDepth 100000 in
theorem k131 : ∀ p, chk 131 p = true := chk_by (h := 65) (by decide +kernel) (fun p h => by show cond (Nat.ble p 65) _ iD = iD; rw [h]; rfl)
set_option maxRecDepth 100000 in
theorem k132 : ∀ p, chk 132 p = true := chk_by (h := 37) (by decide +kernel) (fun p h => by show cond (Nat.ble p 37) _ iD = iD; rw [h]; rfl)
set_option maxRecDepth 100000 in
theorem k133 : ∀ p, chk 133 p = true := chk_by (h := 49) (by decide +kernel) (fun p h => by show cond (Nat.ble p 49) _ iD = iD; rw [h]; rfl)
set_option maxRecDepth 100000 in
theorem k134 : ∀ p, chk 134 p = true := chk_by (h := 48) (by decide +kernel) (fun p h => by show cond (Nat.ble p 48) _ iD = iD; rw [h]; rfl)
set_option maxRecDepth 100000 in
theorem k135 : ∀ p, chk 135 p = true := chk_by (h := 92) (by decide +kernel) (fun p h => by show cond (Nat.ble p 92) _ iD = iD; rw [h]; rfl)
set_option maxRecDepth 100000 in
theorem k136 : ∀ p, chk 136 p = true := chk_by (h := 69) (by decide +kernel) (fun p h => by show cond (Nat.ble p 69) _ iD = iD; rw [h]; rfl)
set_option maxRecDepth 100000 in
theorem k137 : ∀ p, chk 137 p = true := chk_by (h := 58) (by decide +kernel) (fun p h => by show cond (Nat.ble p 58) _ iD = iD; rw [h]; rfl)
set_option maxRecDepth 100000 in
theorem k138 : ∀ p, chk 138 p = true := chk_by (h := 65) (by decide +kernel) (fun p h => by show cond (Nat.ble p 65) _ iD = iD; rw [h]; rfl)
set_option maxRecDepth 100000 in
theorem k139 : ∀ p, chk 139 p = true := chk_by (h := 27) (by decide +kernel) (fun p h => by show cond (Nat.ble p 27) _ iD = iD; rw [h]; rfl)
set_option maxRecDepth 100000 in
theorem k140 : ∀ p, chk 140 p = true := chk_by (h := 33) (by decide +kernel) (fun p h => by show cond (Nat.ble p 33) _ iD = iD; rw [h]; rfl)
set_option maxRecDepth 100000 in
theorem k141 : ∀ p, chk 141 p = true := chk_by (h := 57) (by decide +kernel) (fun p h => by show cond (Nat.ble p 57) _ iD = iD; rw [h]; rfl)
set_option maxRecDepth 100000 in
theorem k142 : ∀ p, chk 142 p = true := chk_by (h := 39) (by decide +kernel) (fun p h => by show cond (Nat.ble p 39) _ iD = iD; rw [h]; rfl)
set_option maxRecDepth 100000 in
theorem k143 : ∀ p, chk 143 p = true := chk_by (h := 67) (by decide +kernel) (fun p h => by show cond (Nat.ble p 67) _ iD = iD; rw [h]; rfl)
set_option maxRecDepth 100000 in
theorem k144 : ∀ p, chk 144 p = true := chk_by (h := 58) (by decide +kernel) (fun p h => by show cond (Nat.ble p 58) _ iD = iD; rw [h]; rfl)
set_option maxRecDepth 100000 in
theorem k145 : ∀ p, chk 145 p = true := chk_by (h := 142) (by decide +kernel) (fun p h => by show cond (Nat.ble p 142) _ iD = iD; rw [h]; rfl)
set_option maxRecDepth 100000 in
theorem k146 : ∀ p, chk 146 p = true := chk_by (h := 82) (by decide +kernel) (fun p h => by show cond (Nat.ble p 82) _ iD = iD; rw [h]; rfl)
set_option maxRecDepth 100000 in
theorem k147 : ∀ p, chk 147 p = true := chk_by (h := 133) (by decide +kernel) (fun p h => by show cond (Nat.ble p 133) _ iD = iD; rw [h]; rfl)
set_option maxRecDepth 100000 in
theorem k148 : ∀ p, chk 148 p = true := chk_by (h := 56) (by decide +kernel) (fun p h => by show cond (Nat.ble p 56) _ iD = iD; rw [h]; rfl)
set_option maxRecDepth 100000 in
theorem k149 : ∀ p, chk 149 p = true := chk_by (h := 53) (by decide +kernel) (fun p h => by show cond (Nat.ble p 53) _ iD = iD; rw [h]; rfl)
set_option maxRecDepth 100000 in
theorem k150 : ∀ p, chk 150 p = true := chk_by (h := 90) (by decide +kernel) (fun p h => by show cond (Nat.ble p 90) _ iD = iD; rw [h]; rfl)
set_option maxRecDepth 100000 in
theorem k151 : ∀ p, chk 151 p = true := chk_by (h := 26) (by decide +kernel) (fun p h => by show cond (Nat.ble p 26) _ iD = iD; rw [h]; rfl)
set_option maxRecDepth 100000 in
theorem k152 : ∀ p, chk 152 p = true := chk_by (h := 23) (by decide +kernel) (fun p h => by show cond (Nat.ble p 23) _ iD = iD; rw [h]; rfl)
set_option maxRecDepth 100000 in
theorem k153 : ∀ p, chk 153 p = true := chk_by (h := 44) (by decide +kernel) (fun p h => by show cond (Nat.ble p 44) _ iD = iD; rw [h]; rfl)
set_option maxRecDepth 100000 in
theorem k154 : ∀ p, chk 154 p = true := chk_by (h := 26) (by decide +kernel) (fun p h => by show cond (Nat.ble p 26) _ iD = iD; rw [h]; rfl)
set_option maxRecDepth 100000 in
theorem k155 : ∀ p, chk 155 p = true := chk_by (h := 26) (by decide +kernel) (fun p h => by show cond (Nat.ble p 26) _ iD = iD; rw [h]; rfl)
set_option maxRecDepth 100000 in
theorem k156 : ∀ p, chk 156 p = true := chk_by (h := 20) (by decide +kernel) (fun p h => by show cond (Nat.ble p 20) _ iD = iD; rw [h]; rfl)
set_option maxRecDepth 100000 in
theorem k157 : ∀ p, chk 157 p = true := chk_by (h := 21) (by decide +kernel) (fun p h => by show cond (Nat.ble p 21) _ iD = iD; rw [h]; rfl)
set_option maxRecDepth 100000 in
theorem k158 : ∀ p, chk 158 p = true := chk_by (h := 29) (by decide +kernel) (fun p h => by show cond (Nat.ble p 29) _ iD = iD; rw [h]; rfl)
set_option maxRecDepth 100000 in
theorem k159 : ∀ p, chk 159 p = true := chk_by (h := 32) (by decide +kernel) (fun p h => by show cond (Nat.ble p 32) _ iD = iD; rw [h]; rfl)
set_option maxRecDepth 100000 in
theorem k160 : ∀ p, chk 160 p = true := chk_by (h := 34) (by decide +kernel) (fun p h => by show cond (Nat.ble p 34) _ iD = iD; rw [h]; rfl)
set_option maxRecDepth 100000 in
theorem k161 : ∀ p, chk 161 p = true := chk_by (h := 30) (by decide +kernel) (fun p h => by show cond (Nat.ble p 30) _ iD = iD; rw [h]; rfl)
set_option maxRecDepth 100000 in
theorem k162 : ∀ p, chk 162 p = true := chk_by (h := 191) (by decide +kernel) (fun p h => by show cond (Nat.ble p 191) _ iD = iD; rw [h]; rfl)
set_option maxRecDepth 100000 in
theorem k163 : ∀ p, chk 163 p = true := chk_by (h := 4) (by decide +kernel) (fun p h => by show cond (Nat.ble p 4) _ iD = iD; rw [h]; rfl)
set_option maxRecDepth 100000 in
theorem k164 : ∀ p, chk 164 p = true := chk_by (h := 14) (by decide +kernel) (fun p h => by show cond (Nat.ble p 14) _ iD = iD; rw [h]; rfl)
set_option maxRecDepth 100000 in
theorem k165 : ∀ p, chk 165 p = true := chk_by (h := 14) (by decide +kernel) (fun p h => by show cond (Nat.ble p 14) _ iD = iD; rw [h]; rfl)
set_option maxRecDepth 100000 in
theorem k166 : ∀ p, chk 166 p = true := chk_by (h := 18) (by decide +kernel) (fun p h => by show cond (Nat.ble p 18) _ iD = iD; rw [h]; rfl)
set_option maxRecDepth 100000 in
theorem k167 : ∀ p, chk 167 p = true := chk_by (h := 14) (by decide +kernel) (fun p h => by show cond (Nat.ble p 14) _ iD = iD; rw [h]; rfl)
set_option maxRecDepth 100000 in
theorem k168 : ∀ p, chk 168 p = true := chk_by (h := 10) (by decide +kernel) (fun p h => by show cond (Nat.ble p 10) _ iD = iD; rw [h]; rfl)
set_option maxRecDepth 100000 in
theorem k169 : ∀ p, chk 169 p = true := chk_by (h := 10) (by decide +kernel) (fun p h => by show cond (Nat.ble p 10) _ iD = iD; rw [h]; rfl)
set_option maxRecDepth 100000 in
theorem k170 : ∀ p, chk 170 p = true := chk_by (h := 21) (by decide +kernel) (fun p h => by show cond (Nat.ble p 21) _ iD = iD; rw [h]; rfl)
set_option maxRecDepth 100000 in
theorem k171 : ∀ p, chk 171 p = true := chk_by (h := 11) (by decide +kernel) (fun p h => by show cond (Nat.ble p 11) _ iD = iD; rw [h]; rfl)
set_option maxRecDepth 100000 in
theorem k172 : ∀ p, chk 172 p = true := chk_by (h := 97) (by decide +kernel) (fun p h => by show cond (Nat.ble p 97) _ iD = iD; rw [h]; rfl)
set_option maxRecDepth 100000 in
theorem k173 : ∀ p, chk 173 p = true := chk_by (h := 71) (by decide +kernel) (fun p h => by show cond (Nat.ble p 71) _ iD = iD; rw [h]; rfl)
set_option maxRecDepth 100000 in
theorem k174 : ∀ p, chk 174 p = true := chk_by (h := 27) (by decide +kernel) (fun p h => by show cond (Nat.ble p 27) _ iD = iD; rw [h]; rfl)
set_option maxRecDepth 100000 in
theorem k175 : ∀ p, chk 175 p = true := chk_by (h := 35) (by decide +kernel) (fun p h => by show cond (Nat.ble p 35) _ iD = iD; rw [h]; rfl)
set_option maxRecDepth 100000 in
theorem k176 : ∀ p, chk 176 p = true := chk_by (h := 11) (by decide +kernel) (fun p h => by show cond (Nat.ble p 11) _ iD = iD; rw [h]; rfl)
set_option maxRecDepth 100000 in
theorem k177 : ∀ p, chk 177 p = true := chk_by (h := 12) (by decide +kernel) (fun p h => by show cond (Nat.ble p 12) _ iD = iD; rw [h]; rfl)
set_option maxRecDepth 100000 in
theorem k178 : ∀ p, chk 178 p = true := chk_by (h := 14) (by decide +kernel) (fun p h => by show cond (Nat.ble p 14) _ iD = iD; rw [h]; rfl)
set_option maxRecDepth 100000 in
theorem k179 : ∀ p, chk 179 p = true := chk_by (h := 32) (by decide +kernel) (fun p h => by show cond (Nat.ble p 32) _ iD = iD; rw [h]; rfl)
set_option maxRecDepth 100000 in
theorem k180 : ∀ p, chk 180 p = true := chk_by (h := 21) (by decide +kernel) (fun p h => by show cond (Nat.ble p 21) _ iD = iD; rw [h]; rfl)
set_option maxRecDepth 100000 in
theorem k181 : ∀ p, chk 181 p = true := chk_by (h := 30) (by decide +kernel) (fun p h => by show cond (Nat.ble p 30) _ iD = iD; rw [h]; rfl)
set_option maxRecDepth 100000 in
theorem k182 : ∀ p, chk 182 p = true := chk_by (h := 62) (by decide +kernel) (fun p h => by show cond (Nat.ble p 62) _ iD = iD; rw [h]; rfl)
set_option maxRecDepth 100000 in
theorem k183 : ∀ p, chk 183 p = true := chk_by (h := 119) (by decide +kernel) (fun p h => by show cond (Nat.ble p 119) _ iD = iD; rw [h]; rfl)
set_option maxRecDepth 100000 in
theorem k184 : ∀ p, chk 184 p = true := chk_by (h := 79) (by decide +kernel) (fun p h => by show cond (Nat.ble p 79) _ iD = iD; rw [h]; rfl)
set_option maxRecDepth 100000 in
theorem k185 : ∀ p, chk 185 p = true := chk_by (h := 52) (by decide +kernel) (fun p h => by show cond (Nat.ble p 52) _ iD = iD; rw [h]; rfl)
set_option maxRecDepth 100000 in
theorem k186 : ∀ p, chk 186 p = true := chk_by (h := 23) (by decide +kernel) (fun p h => by show cond (Nat.ble p 23) _ iD = iD; rw [h]; rfl)
set_option maxRecDepth 100000 in
theorem k187 : ∀ p, chk 187 p = true := chk_by (h := 49) (by decide +kernel) (fun p h => by show cond (Nat.ble p 49) _ iD = iD; rw [h]; rfl)
set_option maxRecDepth 100000 in
theorem k188 : ∀ p, chk 188 p = true := chk_by (h := 40) (by decide +kernel) (fun p h => by show cond (Nat.ble p 40) _ iD = iD; rw [h]; rfl)
set_option maxRecDepth 100000 in
theorem k189 : ∀ p, chk 189 p = true := chk_by (h := 29) (by decide +kernel) (fun p h => by show cond (Nat.ble p 29) _ iD = iD; rw [h]; rfl)
set_option maxRecDepth 100000 in
theorem k190 : ∀ p, chk 190 p = true := chk_by (h := 27) (by decide +kernel) (fun p h => by show cond (Nat.ble p 27) _ iD = iD; rw [h]; rfl)
set_option maxRecDepth 100000 in
theorem k191 : ∀ p, chk 191 p = true := chk_by (h := 13) (by decide +kernel) (fun p h => by show cond (Nat.ble p 13) _ iD = iD; rw [h]; rfl)
set_option maxRecDepth 100000 in
theorem k192 : ∀ p, chk 192 p = true := chk_by (h := 20) (by decide +kernel) (fun p h => by show cond (Nat.ble p 20) _ iD = iD; rw [h]; rfl)
set_option maxRecDepth 100000 in
theorem k193 : ∀ p, chk 193 p = true := chk_by (h := 50) (by decide +kernel) (fun p h => by show cond (Nat.ble p 50) _ iD = iD; rw [h]; rfl)
set_option maxRecDepth 100000 in
theorem k194 : ∀ p, chk 194 p = true := chk_by (h := 51) (by decide +kernel) (fun p h => by show cond (Nat.ble p 51) _ iD = iD; rw [h]; rfl)
set_option maxRecDepth 100000 in
theorem k195 : ∀ p, chk 195 p = true := chk_by (h := 71) (by decide +kernel) (fun p h => by show cond (Nat.ble p 71) _ iD = iD; rw [h]; rfl)
set_option maxRecDepth 100000 in
theorem k196 : ∀ p, chk 196 p = true := chk_by (h := 19) (by decide +kernel) (fun p h => by show cond (Nat.ble p 19) _ iD = iD; rw [h]; rfl)
set_option maxRecDepth 100000 in
theorem k197 : ∀ p, chk 197 p = true := chk_by (h := 32) (by decide +kernel) (fun p h => by show cond (Nat.ble p 32) _ iD = iD; rw [h]; rfl)
set_option maxRecDepth 100000 in
theorem k198 : ∀ p, chk 198 p = true := chk_by (h := 153) (by decide +kernel) (fun p h => by show cond (Nat.ble p 153) _ iD = iD; rw [h]; rfl)
set_option maxRecDepth 100000 in
theorem k199 : ∀ p, chk 199 p = true := chk_by (h := 95) (by decide +kernel) (fun p h => by show cond (Nat.ble p 95) _ iD = iD; rw [h]; rfl)
set_option maxRecDepth 100000 in
theorem k200 : ∀ p, chk 200 p = true := chk_by (h := 62) (by decide +kernel) (fun p h => by show cond (Nat.ble p 62) _ iD = iD; rw [h]; rfl)
set_option maxRecDepth 100000 in
theorem k201 : ∀ p, chk 201 p = true := chk_by (h := 62) (by decide +kernel) (fun p h => by show cond (Nat.ble p 62) _ iD = iD; rw [h]; rfl)
set_option maxRecDepth 100000 in
theorem k202 : ∀ p, chk 202 p = true := chk_by (h := 72) (by decide +kernel) (fun p h => by show cond (Nat.ble p 72) _ iD = iD; rw [h]; rfl)
set_option maxRecDepth 100000 in
theorem k203 : ∀ p, chk 203 p = true := chk_by (h := 48) (by decide +kernel) (fun p h => by show cond (Nat.ble p 48) _ iD = iD; rw [h]; rfl)
set_option maxRecDepth 100000 in
theorem k204 : ∀ p, chk 204 p = true := chk_by (h := 304) (by decide +kernel) (fun p h => by show cond (Nat.ble p 304) _ iD = iD; rw [h]; rfl)
set_option maxRecDepth 100000 in
theorem k205 : ∀ p, chk 205 p = true := chk_by (h := 76) (by decide +kernel) (fun p h => by show cond (Nat.ble p 76) _ iD = iD; rw [h]; rfl)
set_option maxRecDepth 100000 in
theorem k206 : ∀ p, chk 206 p = true := chk_by (h := 24) (by decide +kernel) (fun p h => by show cond (Nat.ble p 24) _ iD = iD; rw [h]; rfl)
set_option maxRecDepth 100000 in
theorem k207 : ∀ p, chk 207 p = true := chk_by (h := 32) (by decide +kernel) (fun p h => by show cond (Nat.ble p 32) _ iD = iD; rw [h]; rfl)
set_option maxRecDepth 100000 in
theorem k208 : ∀ p, chk 208 p = true := chk_by (h := 13) (by decide +kernel) (fun p h => by show cond (Nat.ble p 13) _ iD = iD; rw [h]; rfl)
set_option maxRecDepth 100000 in
theorem k209 : ∀ p, chk 209 p = true := chk_by (h := 13) (by decide +kernel) (fun p h => by show cond (Nat.ble p 13) _ iD = iD; rw [h]; rfl)
set_option maxRecDepth 100000 in
theorem k210 : ∀ p, chk 210 p = true := chk_by (h := 9) (by decide +kernel) (fun p h => by show cond (Nat.ble p 9) _ iD = iD; rw [h]; rfl)
set_option maxRecDepth 100000 in
theorem k211 : ∀ p, chk 211 p = true := chk_by (h := 27) (by decide +kernel) (fun p h => by show cond (Nat.ble p 27) _ iD = iD; rw [h]; rfl)
set_option maxRecDepth 100000 in
theorem k212 : ∀ p, chk 212 p = true := chk_by (h := 102) (by decide +kernel) (fun p h => by show cond (Nat.ble p 102) _ iD = iD; rw [h]; rfl)
set_option maxRecDepth 100000 in
theorem k213 : ∀ p, chk 213 p = true := chk_by (h := 60) (by decide +kernel) (fun p h => by show cond (Nat.ble p 60) _ iD = iD; rw [h]; rfl)
set_option maxRecDepth 100000 in
theorem k214 : ∀ p, chk 214 p = true := chk_by (h := 79) (by decide +kernel) (fun p h => by show cond (Nat.ble p 79) _ iD = iD; rw [h]; rfl)
set_option maxRecDepth 100000 in
theorem k215 : ∀ p, chk 215 p = true := chk_by (h := 60) (by decide +kernel) (fun p h => by show cond (Nat.ble p 60) _ iD = iD; rw [h]; rfl)
set_option maxRecDepth 100000 in
theorem k216 : ∀ p, chk 216 p = true := chk_by (h := 38) (by decide +kernel) (fun p h => by show cond (Nat.ble p 38) _ iD = iD; rw [h]; rfl)
set_option maxRecDepth 100000 in
theorem k217 : ∀ p, chk 217 p = true := chk_by (h := 28) (by decide +kernel) (fun p h => by show cond (Nat.ble p 28) _ iD = iD; rw [h]; rfl)
set_option maxRecDepth 100000 in
theorem k218 : ∀ p, chk 218 p = true := chk_by (h := 30) (by decide +kernel) (fun p h => by show cond (Nat.ble p 30) _ iD = iD; rw [h]; rfl)
set_option maxRecDepth 100000 in
theorem k219 : ∀ p, chk 219 p = true := chk_by (h := 86) (by decide +kernel) (fun p h => by show cond (Nat.ble p 86) _ iD = iD; rw [h]; rfl)
set_option maxRecDepth 100000 in
theorem k220 : ∀ p, chk 220 p = true := chk_by (h := 58) (by decide +kernel) (fun p h => by show cond (Nat.ble p 58) _ iD = iD; rw [h]; rfl)
set_option maxRecDepth 100000 in
theorem k221 : ∀ p, chk 221 p = true := chk_by (h := 85) (by decide +kernel) (fun p h => by show cond (Nat.ble p 85) _ iD = iD; rw [h]; rfl)
set_option maxRecDepth 100000 in
theorem k222 : ∀ p, chk 222 p = true := chk_by (h := 9) (by decide +kernel) (fun p h => by show cond (Nat.ble p 9) _ iD = iD; rw [h]; rfl)
set_option maxRecDepth 100000 in
theorem k223 : ∀ p, chk 223 p = true := chk_by (h := 23) (by decide +kernel) (fun p h => by show cond (Nat.ble p 23) _ iD = iD; rw [h]; rfl)
set_option maxRecDepth 100000 in
theorem k224 : ∀ p, chk 224 p = true := chk_by (h := 21) (by decide +kernel) (fun p h => by show cond (Nat.ble p 21) _ iD = iD; rw [h]; rfl)
set_option maxRecDepth 100000 in
theorem k225 : ∀ p, chk 225 p = true := chk_by (h := 40) (by decide +kernel) (fun p h => by show cond (Nat.ble p 40) _ iD = iD; rw [h]; rfl)
set_option maxRecDepth 100000 in
theorem k226 : ∀ p, chk 226 p = true := chk_by (h := 181) (by decide +kernel) (fun p h => by show cond (Nat.ble p 181) _ iD = iD; rw [h]; rfl)
set_option maxRecDepth 100000 in
theorem k227 : ∀ p, chk 227 p = true := chk_by (h := 44) (by decide +kernel) (fun p h => by show cond (Nat.ble p 44) _ iD = iD; rw [h]; rfl)
set_option maxRecDepth 100000 in
theorem k228 : ∀ p, chk 228 p = true := chk_by (h := 196) (by decide +kernel) (fun p h => by show cond (Nat.ble p 196) _ iD = iD; rw [h]; rfl)
set_option maxRecDepth 100000 in
theorem k229 : ∀ p, chk 229 p = true := chk_by (h := 35) (by decide +kernel) (fun p h => by show cond (Nat.ble p 35) _ iD = iD; rw [h]; rfl)
set_option maxRecDepth 100000 in
theorem k230 : ∀ p, chk 230 p = true := chk_by (h := 23) (by decide +kernel) (fun p h => by show cond (Nat.ble p 23) _ iD = iD; rw [h]; rfl)
set_option maxRecDepth 100000 in
theorem k231 : ∀ p, chk 231 p = true := chk_by (h := 129) (by decide +kernel) (fun p h => by show cond (Nat.ble p 129) _ iD = iD; rw [h]; rfl)
set_option maxRecDepth 100000 in
theorem k232 : ∀ p, chk 232 p = true := chk_by (h := 15) (by decide +kernel) (fun p h => by show cond (Nat.ble p 15) _ iD = iD; rw [h]; rfl)
set_option maxRecDepth 100000 in
theorem k233 : ∀ p, chk 233 p = true := chk_by (h := 38) (by decide +kernel) (fun p h => by show cond (Nat.ble p 38) _ iD = iD; rw [h]; rfl)
set_option maxRecDepth 100000 in
theorem k234 : ∀ p, chk 234 p = true := chk_by (h := 25) (by decide +kernel) (fun p h => by show cond (Nat.ble p 25) _ iD = iD; rw [h]; rfl)
set_option maxRecDepth 100000 in
theorem k235 : ∀ p, chk 235 p = true := chk_by (h := 50) (by decide +kernel) (fun p h => by show cond (Nat.ble p 50) _ iD = iD; rw [h]; rfl)
set_option maxRecDepth 100000 in
theorem k236 : ∀ p, chk 236 p = true := chk_by (h := 47) (by decide +kernel) (fun p h => by show cond (Nat.ble p 47) _ iD = iD; rw [h]; rfl)
set_option maxRecDepth 100000 in
theorem k237 : ∀ p, chk 237 p = true := chk_by (h := 12) (by decide +kernel) (fun p h => by show cond (Nat.ble p 12) _ iD = iD; rw [h]; rfl)
set_option maxRecDepth 100000 in
theorem k238 : ∀ p, chk 238 p = true := chk_by (h := 82) (by decide +kernel) (fun p h => by show cond (Nat.ble p 82) _ iD = iD; rw [h]; rfl)
set_option maxRecDepth 100000 in
theorem k239 : ∀ p, chk 239 p = true := chk_by (h := 21) (by decide +kernel) (fun p h => by show cond (Nat.ble p 21) _ iD = iD; rw [h]; rfl)
set_option maxRecDepth 100000 in
theorem k240 : ∀ p, chk 240 p = true := chk_by (h := 38) (by decide +kernel) (fun p h => by show cond (Nat.ble p 38) _ iD = iD; rw [h]; rfl)
set_option maxRecDepth 100000 in
theorem k241 : ∀ p, chk 241 p = true := chk_by (h := 42) (by decide +kernel) (fun p h => by show cond (Nat.ble p 42) _ iD = iD; rw [h]; rfl)
set_option maxRecDepth 100000 in
theorem k242 : ∀ p, chk 242 p = true := chk_by (h := 21) (by decide +kernel) (fun p h => by show cond (Nat.ble p 21) _ iD = iD; rw [h]; rfl)
set_option maxRecDepth 100000 in
theorem k243 : ∀ p, chk 243 p = true := chk_by (h := 47) (by decide +kernel) (fun p h => by show cond (Nat.ble p 47) _ iD = iD; rw [h]; rfl)
set_option maxRecDepth 100000 in
theorem k244 : ∀ p, chk 244 p = true := chk_by (h := 37) (by decide +kernel) (fun p h => by show cond (Nat.ble p 37) _ iD = iD; rw [h]; rfl)
set_option maxRecDepth 100000 in
theorem k245 : ∀ p, chk 245 p = true := chk_by (h := 41) (by decide +kernel) (fun p h => by show cond (Nat.ble p 41) _ iD = iD; rw [h]; rfl)
set_option maxRecDepth 100000 in
theorem k246 : ∀ p, chk 246 p = true := chk_by (h := 20) (by decide +kernel) (fun p h => by show cond (Nat.ble p 20) _ iD = iD; rw [h]; rfl)
set_option maxRecDepth 100000 in
theorem k247 : ∀ p, chk 247 p = true := chk_by (h := 137) (by decide +kernel) (fun p h => by show cond (Nat.ble p 137) _ iD = iD; rw [h]; rfl)
set_option maxRecDepth 100000 in
theorem k248 : ∀ p, chk 248 p = true := chk_by (h := 114) (by decide +kernel) (fun p h => by show cond (Nat.ble p 114) _ iD = iD; rw [h]; rfl)
set_option maxRecDepth 100000 in
theorem k249 : ∀ p, chk 249 p = true := chk_by (h := 69) (by decide +kernel) (fun p h => by show cond (Nat.ble p 69) _ iD = iD; rw [h]; rfl)
set_option maxRecDepth 100000 in
theorem k250 : ∀ p, chk 250 p = true := chk_by (h := 50) (by decide +kernel) (fun p h => by show cond (Nat.ble p 50) _ iD = iD; rw [h]; rfl)
set_option maxRecDepth 100000 in
theorem k251 : ∀ p, chk 251 p = true := chk_by (h := 42) (by decide +kernel) (fun p h => by show cond (Nat.ble p 42) _ iD = iD; rw [h]; rfl)
set_option maxRecDepth 100000 in
theorem k252 : ∀ p, chk 252 p = true := chk_by (h := 24) (by decide +kernel) (fun p h => by show cond (Nat.ble p 24) _ iD = iD; rw [h]; rfl)
set_option maxRecDepth 100000 in
theorem k253 : ∀ p, chk 253 p = true := chk_by (h := 82) (by decide +kernel) (fun p h => by show cond (Nat.ble p 82) _ iD = iD; rw [h]; rfl)
set_option maxRecDepth 100000 in
theorem k254 : ∀ p, chk 254 p = true := chk_by (h := 47) (by decide +kernel) (fun p h => by show cond (Nat.ble p 47) _ iD = iD; rw [h]; rfl)
set_option maxRecDepth 100000 in
theorem k255 : ∀ p, chk 255 p = true := chk_by (h := 65) (by decide +kernel) (fun p h => by show cond (Nat.ble p 65) _ iD = iD; rw [h]; rfl)
set_option maxRecDepth 100000 in
theorem k256 : ∀ p, chk 256 p = true := chk_by (h := 36) (by decide +kernel) (fun p h => by show cond (Nat.ble p 36) _ iD = iD; rw [h]; rfl)
set_option maxRecDepth 100000 in
theorem k257 : ∀ p, chk 257 p = true := chk_by (h := 19) (by decide +kernel) (fun p h => by show cond (Nat.ble p 19) _ iD = iD; rw [h]; rfl)
set_option maxRecDepth 100000 in
theorem k258 : ∀ p, chk 258 p = true := chk_by (h := 39) (by decide +kernel) (fun p h => by show cond (Nat.ble p 39) _ iD = iD; rw [h]; rfl)
set_option maxRecDepth 100000 in
theorem k259 : ∀ p, chk 259 p = true := chk_by (h := 96) (by decide +kernel) (fun p h => by show cond (Nat.ble p 96) _ iD = iD; rw [h]; rfl)
set_option maxRecDepth 100000 in
theorem k260 : ∀ p, chk 260 p = true := chk_by (h := 14) (by decide +kernel) (fun p h => by show cond (Nat.ble p 14) _ iD = iD; rw [h]; rfl)
set_option maxRecDepth 100000 in
theorem k261 : ∀ p, chk 261 p = true := chk_by (h := 45) (by decide +kernel) (fun p h => by show cond (Nat.ble p 45) _ iD = iD; rw [h]; rfl)
set_option maxRecDepth 100000 in
theorem k262 : ∀ p, chk 262 p = true := chk_by (h := 33) (by decide +kernel) (fun p h => by show cond (Nat.ble p 33) _ iD = iD; rw [h]; rfl)
set_option maxRecDepth 100000 in
theorem k263 : ∀ p, chk 263 p = true := chk_by (h := 82) (by decide +kernel) (fun p h => by show cond (Nat.ble p 82) _ iD = iD; rw [h]; rfl)
set_option maxRecDepth 100000 in
theorem k264 : ∀ p, chk 264 p = true := chk_by (h := 72) (by decide +kernel) (fun p h => by show cond (Nat.ble p 72) _ iD = iD; rw [h]; rfl)
set_option maxRecDepth 100000 in
theorem k265 : ∀ p, chk 265 p = true := chk_by (h := 91) (by decide +kernel) (fun p h => by show cond (Nat.ble p 91) _ iD = iD; rw [h]; rfl)
set_option maxRecDepth 100000 in
theorem k266 : ∀ p, chk 266 p = true := chk_by (h := 65) (by decide +kernel) (fun p h => by show cond (Nat.ble p 65) _ iD = iD; rw [h]; rfl)
set_option maxRecDepth 100000 in
theorem k267 : ∀ p, chk 267 p = true := chk_by (h := 58) (by decide +kernel) (fun p h => by show cond (Nat.ble p 58) _ iD = iD; rw [h]; rfl)
set_option maxRecDepth 100000 in
theorem k268 : ∀ p, chk 268 p = true := chk_by (h := 82) (by decide +kernel) (fun p h => by show cond (Nat.ble p 82) _ iD = iD; rw [h]; rfl)
set_option maxRecDepth 100000 in
theorem k269 : ∀ p, chk 269 p = true := chk_by (h := 227) (by decide +kernel) (fun p h => by show cond (Nat.ble p 227) _ iD = iD; rw [h]; rfl)
set_option maxRecDepth 100000 in
theorem k270 : ∀ p, chk 270 p = true := chk_by (h := 121) (by decide +kernel) (fun p h => by show cond (Nat.ble p 121) _ iD = iD; rw [h]; rfl)
set_option maxRecDepth 100000 in
theorem k271 : ∀ p, chk 271 p = true := chk_by (h := 27) (by decide +kernel) (fun p h => by show cond (Nat.ble p 27) _ iD = iD; rw [h]; rfl)
set_option maxRecDepth 100000 in
theorem k272 : ∀ p, chk 272 p = true := chk_by (h := 22) (by decide +kernel) (fun p h => by show cond (Nat.ble p 22) _ iD = iD; rw [h]; rfl)
set_option maxRecDepth 100000 in
theorem k273 : ∀ p, chk 273 p = true := chk_by (h := 15) (by decide +kernel) (fun p h => by show cond (Nat.ble p 15) _ iD = iD; rw [h]; rfl)
set_option maxRecDepth 100000 in
theorem k274 : ∀ p, chk 274 p = true := chk_by (h := 304) (by decide +kernel) (fun p h => by show cond (Nat.ble p 304) _ iD = iD; rw [h]; rfl)
set_option maxRecDepth 100000 in
theorem k275 : ∀ p, chk 275 p = true := chk_by (h := 133) (by decide +kernel) (fun p h => by show cond (Nat.ble p 133) _ iD = iD; rw [h]; rfl)
set_option maxRecDepth 100000 in
theorem k276 : ∀ p, chk 276 p = true := chk_by (h := 12) (by decide +kernel) (fun p h => by show cond (Nat.ble p 12) _ iD = iD; rw [h]; rfl)
set_option maxRecDepth 100000 in
theorem k277 : ∀ p, chk 277 p = true := chk_by (h := 25) (by decide +kernel) (fun p h => by show cond (Nat.ble p 25) _ iD = iD; rw [h]; rfl)
set_option maxRecDepth 100000 in
theorem k278 : ∀ p, chk 278 p = true := chk_by (h := 11) (by decide +kernel) (fun p h => by show cond (Nat.ble p 11) _ iD = iD; rw [h]; rfl)
set_option maxRecDepth 100000 in
theorem k279 : ∀ p, chk 279 p = true := chk_by (h := 28) (by decide +kernel) (fun p h => by show cond (Nat.ble p 28) _ iD = iD; rw [h]; rfl)
set_option maxRecDepth 100000 in
theorem k280 : ∀ p, chk 280 p = true := chk_by (h := 35) (by decide +kernel) (fun p h => by show cond (Nat.ble p 35) _ iD = iD; rw [h]; rfl)
set_option maxRecDepth 100000 in
theorem k281 : ∀ p, chk 281 p = true := chk_by (h := 52) (by decide +kernel) (fun p h => by show cond (Nat.ble p 52) _ iD = iD; rw [h]; rfl)
set_option maxRecDepth 100000 in
theorem k282 : ∀ p, chk 282 p = true := chk_by (h := 28) (by decide +kernel) (fun p h => by show cond (Nat.ble p 28) _ iD = iD; rw [h]; rfl)
set_option maxRecDepth 100000 in
theorem k283 : ∀ p, chk 283 p = true := chk_by (h := 49) (by decide +kernel) (fun p h => by show cond (Nat.ble p 49) _ iD = iD; rw [h]; rfl)
set_option maxRecDepth 100000 in
theorem k284 : ∀ p, chk 284 p = true := chk_by (h := 46) (by decide +kernel) (fun p h => by show cond (Nat.ble p 46) _ iD = iD; rw [h]; rfl)
set_option maxRecDepth 100000 in
theorem k285 : ∀ p, chk 285 p = true := chk_by (h := 104) (by decide +kernel) (fun p h => by show cond (Nat.ble p 104) _ iD = iD; rw [h]; rfl)
set_option maxRecDepth 100000 in
theorem k286 : ∀ p, chk 286 p = true := chk_by (h := 122) (by decide +kernel) (fun p h => by show cond (Nat.ble p 122) _ iD = iD; rw [h]; rfl)
set_option maxRecDepth 100000 in
theorem k287 : ∀ p, chk 287 p = true := chk_by (h := 63) (by decide +kernel) (fun p h => by show cond (Nat.ble p 63) _ iD = iD; rw [h]; rfl)
set_option maxRecDepth 100000 in
theorem k288 : ∀ p, chk 288 p = true := chk_by (h := 68) (by decide +kernel) (fun p h => by show cond (Nat.ble p 68) _ iD = iD; rw [h]; rfl)
set_option maxRecDepth 100000 in
theorem k289 : ∀ p, chk 289 p = true := chk_by (h := 93) (by decide +kernel) (fun p h => by show cond (Nat.ble p 93) _ iD = iD; rw [h]; rfl)
set_option maxRecDepth 100000 in
theorem k290 : ∀ p, chk 290 p = true := chk_by (h := 171) (by decide +kernel) (fun p h => by show cond (Nat.ble p 171) _ iD = iD; rw [h]; rfl)
set_option maxRecDepth 100000 in
theorem k291 : ∀ p, chk 291 p = true := chk_by (h := 138) (by decide +kernel) (fun p h => by show cond (Nat.ble p 138) _ iD = iD; rw [h]; rfl)
set_option maxRecDepth 100000 in
theorem k292 : ∀ p, chk 292 p = true := chk_by (h := 103) (by decide +kernel) (fun p h => by show cond (Nat.ble p 103) _ iD = iD; rw [h]; rfl)
set_option maxRecDepth 100000 in
theorem k293 : ∀ p, chk 293 p = true := chk_by (h := 9) (by decide +kernel) (fun p h => by show cond (Nat.ble p 9) _ iD = iD; rw [h]; rfl)
set_option maxRecDepth 100000 in
theorem k294 : ∀ p, chk 294 p = true := chk_by (h := 9) (by decide +kernel) (fun p h => by show cond (Nat.ble p 9) _ iD = iD; rw [h]; rfl)
set_option maxRecDepth 100000 in
theorem k295 : ∀ p, chk 295 p = true := chk_by (h := 118) (by decide +kernel) (fun p h => by show cond (Nat.ble p 118) _ iD = iD; rw [h]; rfl)
set_option maxRecDepth 100000 in
theorem k296 : ∀ p, chk 296 p = true := chk_by (h := 21) (by decide +kernel) (fun p h => by show cond (Nat.ble p 21) _ iD = iD; rw [h]; rfl)
set_option maxRecDepth 100000 in
theorem k297 : ∀ p, chk 297 p = true := chk_by (h := 28) (by decide +kernel) (fun p h => by show cond (Nat.ble p 28) _ iD = iD; rw [h]; rfl)
set_option maxRecDepth 100000 in
theorem k298 : ∀ p, chk 298 p = true := chk_by (h := 97) (by decide +kernel) (fun p h => by show cond (Nat.ble p 97) _ iD = iD; rw [h]; rfl)
set_option maxRecDepth 100000 in
theorem k299 : ∀ p, chk 299 p = true := chk_by (h := 31) (by decide +kernel) (fun p h => by show cond (Nat.ble p 31) _ iD = iD; rw [h]; rfl)
set_option maxRecDepth 100000 in
theorem k300 : ∀ p, chk 300 p = true := chk_by (h := 18) (by decide +kernel) (fun p h => by show cond (Nat.ble p 18) _ iD = iD; rw [h]; rfl)
set_option maxRecDepth 100000 in
theorem k301 : ∀ p, chk 301 p = true := chk_by (h := 18) (by decide +kernel) (fun p h => by show cond (Nat.ble p 18) _ iD = iD; rw [h]; rfl)
set_option maxRecDepth 100000 in
theorem k302 : ∀ p, chk 302 p = true := chk_by (h := 18) (by decide +kernel) (fun p h => by show cond (Nat.ble p 18) _ iD = iD; rw [h]; rfl)
set_option maxRecDepth 100000 in
theorem k303 : ∀ p, chk 303 p = true := chk_by (h := 16) (by decide +kernel) (fun p h => by show cond (Nat.ble p 16) _ iD = iD; rw [h]; rfl)
set_option maxRecDepth 100000 in
theorem k304 : ∀ p, chk 304 p = true := chk_by (h := 22) (by decide +kernel) (fun p h => by show cond (Nat.ble p 22) _ iD = iD; rw [h]; rfl)
set_option maxRecDepth 100000 in
theorem k305 : ∀ p, chk 305 p = true := chk_by (h := 22) (by decide +kernel) (fun p h => by show cond (Nat.ble p 22) _ iD = iD; rw [h]; rfl)
set_option maxRecDepth 100000 in
theorem k306 : ∀ p, chk 306 p = true := chk_by (h := 22) (by decide +kernel) (fun p h => by show cond (Nat.ble p 22) _ iD = iD; rw [h]; rfl)
set_option maxRecDepth 100000 in
theorem k307 : ∀ p, chk 307 p = true := chk_by (h := 16) (by decide +kernel) (fun p h => by show cond (Nat.ble p 16) _ iD = iD; rw [h]; rfl)
set_option maxRecDepth 100000 in
theorem k308 : ∀ p, chk 308 p = true := chk_by (h := 18) (by decide +kernel) (fun p h => by show cond (Nat.ble p 18) _ iD = iD; rw [h]; rfl)
set_option maxRecDepth 100000 in
theorem k309 : ∀ p, chk 309 p = true := chk_by (h := 25) (by decide +kernel) (fun p h => by show cond (Nat.ble p 25) _ iD = iD; rw [h]; rfl)
set_option maxRecDepth 100000 in
theorem k310 : ∀ p, chk 310 p = true := chk_by (h := 16) (by decide +kernel) (fun p h => by show cond (Nat.ble p 16) _ iD = iD; rw [h]; rfl)
set_option maxRecDepth 100000 in
theorem k311 : ∀ p, chk 311 p = true := chk_by (h := 22) (by decide +kernel) (fun p h => by show cond (Nat.ble p 22) _ iD = iD; rw [h]; rfl)
set_option maxRecDepth 100000 in
theorem k312 : ∀ p, chk 312 p = true := chk_by (h := 23) (by decide +kernel) (fun p h => by show cond (Nat.ble p 23) _ iD = iD; rw [h]; rfl)
set_option maxRecDepth 100000 in
theorem k313 : ∀ p, chk 313 p = true := chk_by (h := 18) (by decide +kernel) (fun p h => by show cond (Nat.ble p 18) _ iD = iD; rw [h]; rfl)
set_option maxRecDepth 100000 in
theorem k314 : ∀ p, chk 314 p = true := chk_by (h := 16) (by decide +kernel) (fun p h => by show cond (Nat.ble p 16) _ iD = iD; rw [h]; rfl)
set_option maxRecDepth 100000 in
theorem k315 : ∀ p, chk 315 p = true := chk_by (h := 16) (by decide +kernel) (fun p h => by show cond (Nat.ble p 16) _ iD = iD; rw [h]; rfl)
set_option maxRecDepth 100000 in
theorem k316 : ∀ p, chk 316 p = true := chk_by (h := 15) (by decide +kernel) (fun p h => by show cond (Nat.ble p 15) _ iD = iD; rw [h]; rfl)
set_option maxRecDepth 100000 in
theorem k317 : ∀ p, chk 317 p = true := chk_by (h := 16) (by decide +kernel) (fun p h => by show cond (Nat.ble p 16) _ iD = iD; rw [h]; rfl)
set_option maxRecDepth 100000 in
theorem k318 : ∀ p, chk 318 p = true := chk_by (h := 16) (by decide +kernel) (fun p h => by show cond (Nat.ble p 16) _ iD = iD; rw [h]; rfl)
set_option maxRecDepth 100000 in
theorem k319 : ∀ p, chk 319 p = true := chk_by (h := 28) (by decide +kernel) (fun p h => by show cond (Nat.ble p 28) _ iD = iD; rw [h]; rfl)
set_option maxRecDepth 100000 in
theorem k320 : ∀ p, chk 320 p = true := chk_by (h := 19) (by decide +kernel) (fun p h => by show cond (Nat.ble p 19) _ iD = iD; rw [h]; rfl)
set_option maxRecDepth 100000 in
theorem k321 : ∀ p, chk 321 p = true := chk_by (h := 16) (by decide +kernel) (fun p h => by show cond (Nat.ble p 16) _ iD = iD; rw [h]; rfl)
set_option maxRecDepth 100000 in
theorem k322 : ∀ p, chk 322 p = true := chk_by (h := 22) (by decide +kernel) (fun p h => by show cond (Nat.ble p 22) _ iD = iD; rw [h]; rfl)
set_option maxRecDepth 100000 in
theorem k323 : ∀ p, chk 323 p = true := chk_by (h := 16) (by decide +kernel) (fun p h => by show cond (Nat.ble p 16) _ iD = iD; rw [h]; rfl)
set_option maxRecDepth 100000 in
theorem k324 : ∀ p, chk 324 p = true := chk_by (h := 16) (by decide +kernel) (fun p h => by show cond (Nat.ble p 16) _ iD = iD; rw [h]; rfl)
set_option maxRecDepth 100000 in
theorem k325 : ∀ p, chk 325 p = true := chk_by (h := 22) (by decide +kernel) (fun p h => by show cond (Nat.ble p 22) _ iD = iD; rw [h]; rfl)
set_option maxRecDepth 100000 in
theorem k326 : ∀ p, chk 326 p = true := chk_by (h := 15) (by decide +kernel) (fun p h => by show cond (Nat.ble p 15) _ iD = iD; rw [h]; rfl)
set_option maxRecDepth 100000 in
theorem k327 : ∀ p, chk 327 p = true := chk_by (h := 22) (by decide +kernel) (fun p h => by show cond (Nat.ble p 22) _ iD = iD; rw [h]; rfl)
set_option maxRecDepth 100000 in
theorem k328 : ∀ p, chk 328 p = true := chk_by (h := 22) (by decide +kernel) (fun p h => by show cond (Nat.ble p 22) _ iD = iD; rw [h]; rfl)
set_option maxRecDepth 100000 in
theorem k329 : ∀ p, chk 329 p = true := chk_by (h := 22) (by decide +kernel) (fun p h => by show cond (Nat.ble p 22) _ iD = iD; rw [h]; rfl)
set_option maxRecDepth 100000 in
theorem k330 : ∀ p, chk 330 p = true := chk_by (h := 16) (by decide +kernel) (fun p h => by show cond (Nat.ble p 16) _ iD = iD; rw [h]; rfl)
set_option maxRecDepth 100000 in
theorem k331 : ∀ p, chk 331 p = true := chk_by (h := 16) (by decide +kernel) (fun p h => by show cond (Nat.ble p 16) _ iD = iD; rw [h]; rfl)
set_option maxRecDepth 100000 in
theorem k332 : ∀ p, chk 332 p = true := chk_by (h := 16) (by decide +kernel) (fun p h => by show cond (Nat.ble p 16) _ iD = iD; rw [h]; rfl)
set_option maxRecDepth 100000 in
theorem k333 : ∀ p, chk 333 p = true := chk_by (h := 15) (by decide +kernel) (fun p h => by show cond (Nat.ble p 15) _ iD = iD; rw [h]; rfl)
