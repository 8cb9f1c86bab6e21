/-! the tables tell the code: every method (printed by wip/p53/gen16.py) -/
set_option maxRecDepth 100000 in
theorem k70 : ∀ p, chk 70 p = true := chk_by (h := 121) (by decide +kernel) (fun p h => by show cond (Nat.ble p 121) _ iD = iD; rw [h]; rfl)
set_option maxRecDepth 100000 in
theorem k71 : ∀ p, chk 71 p = true := chk_by (h := 152) (by decide +kernel) (fun p h => by show cond (Nat.ble p 152) _ iD = iD; rw [h]; rfl)
set_option maxRecDepth 100000 in
theorem k72 : ∀ p, chk 72 p = true := chk_by (h := 181) (by decide +kernel) (fun p h => by show cond (Nat.ble p 181) _ iD = iD; rw [h]; rfl)
set_option maxRecDepth 100000 in
theorem k73 : ∀ p, chk 73 p = true := chk_by (h := 26) (by decide +kernel) (fun p h => by show cond (Nat.ble p 26) _ iD = iD; rw [h]; rfl)
set_option maxRecDepth 100000 in
theorem k74 : ∀ p, chk 74 p = true := chk_by (h := 16) (by decide +kernel) (fun p h => by show cond (Nat.ble p 16) _ iD = iD; rw [h]; rfl)
set_option maxRecDepth 100000 in
theorem k75 : ∀ p, chk 75 p = true := chk_by (h := 21) (by decide +kernel) (fun p h => by show cond (Nat.ble p 21) _ iD = iD; rw [h]; rfl)
set_option maxRecDepth 100000 in
theorem k76 : ∀ p, chk 76 p = true := chk_by (h := 51) (by decide +kernel) (fun p h => by show cond (Nat.ble p 51) _ iD = iD; rw [h]; rfl)
set_option maxRecDepth 100000 in
theorem k77 : ∀ p, chk 77 p = true := chk_by (h := 41) (by decide +kernel) (fun p h => by show cond (Nat.ble p 41) _ iD = iD; rw [h]; rfl)
set_option maxRecDepth 100000 in
theorem k78 : ∀ p, chk 78 p = true := chk_by (h := 72) (by decide +kernel) (fun p h => by show cond (Nat.ble p 72) _ iD = iD; rw [h]; rfl)
set_option maxRecDepth 100000 in
theorem k79 : ∀ p, chk 79 p = true := chk_by (h := 31) (by decide +kernel) (fun p h => by show cond (Nat.ble p 31) _ iD = iD; rw [h]; rfl)
set_option maxRecDepth 100000 in
theorem k80 : ∀ p, chk 80 p = true := chk_by (h := 91) (by decide +kernel) (fun p h => by show cond (Nat.ble p 91) _ iD = iD; rw [h]; rfl)
set_option maxRecDepth 100000 in
theorem k81 : ∀ p, chk 81 p = true := chk_by (h := 34) (by decide +kernel) (fun p h => by show cond (Nat.ble p 34) _ iD = iD; rw [h]; rfl)
set_option maxRecDepth 100000 in
theorem k82 : ∀ p, chk 82 p = true := chk_by (h := 31) (by decide +kernel) (fun p h => by show cond (Nat.ble p 31) _ iD = iD; rw [h]; rfl)
set_option maxRecDepth 100000 in
theorem k85 : ∀ p, chk 85 p = true := chk_by (h := 18) (by decide +kernel) (fun p h => by show cond (Nat.ble p 18) _ iD = iD; rw [h]; rfl)
set_option maxRecDepth 100000 in
theorem k86 : ∀ p, chk 86 p = true := chk_by (h := 77) (by decide +kernel) (fun p h => by show cond (Nat.ble p 77) _ iD = iD; rw [h]; rfl)
set_option maxRecDepth 100000 in
theorem k87 : ∀ p, chk 87 p = true := chk_by (h := 18) (by decide +kernel) (fun p h => by show cond (Nat.ble p 18) _ iD = iD; rw [h]; rfl)
set_option maxRecDepth 100000 in
theorem k88 : ∀ p, chk 88 p = true := chk_by (h := 33) (by decide +kernel) (fun p h => by show cond (Nat.ble p 33) _ iD = iD; rw [h]; rfl)
set_option maxRecDepth 100000 in
theorem k89 : ∀ p, chk 89 p = true := chk_by (h := 73) (by decide +kernel) (fun p h => by show cond (Nat.ble p 73) _ iD = iD; rw [h]; rfl)
set_option maxRecDepth 100000 in
theorem k90 : ∀ p, chk 90 p = true := chk_by (h := 68) (by decide +kernel) (fun p h => by show cond (Nat.ble p 68) _ iD = iD; rw [h]; rfl)
set_option maxRecDepth 100000 in
theorem k91 : ∀ p, chk 91 p = true := chk_by (h := 55) (by decide +kernel) (fun p h => by show cond (Nat.ble p 55) _ iD = iD; rw [h]; rfl)
set_option maxRecDepth 100000 in
theorem k92 : ∀ p, chk 92 p = true := chk_by (h := 125) (by decide +kernel) (fun p h => by show cond (Nat.ble p 125) _ iD = iD; rw [h]; rfl)
set_option maxRecDepth 100000 in
theorem k93 : ∀ p, chk 93 p = true := chk_by (h := 24) (by decide +kernel) (fun p h => by show cond (Nat.ble p 24) _ iD = iD; rw [h]; rfl)
set_option maxRecDepth 100000 in
theorem k94 : ∀ p, chk 94 p = true := chk_by (h := 9) (by decide +kernel) (fun p h => by show cond (Nat.ble p 9) _ iD = iD; rw [h]; rfl)
set_option maxRecDepth 100000 in
theorem k95 : ∀ p, chk 95 p = true := chk_by (h := 234) (by decide +kernel) (fun p h => by show cond (Nat.ble p 234) _ iD = iD; rw [h]; rfl)
set_option maxRecDepth 100000 in
theorem k96 : ∀ p, chk 96 p = true := chk_by (h := 9) (by decide +kernel) (fun p h => by show cond (Nat.ble p 9) _ iD = iD; rw [h]; rfl)
set_option maxRecDepth 100000 in
theorem k97 : ∀ p, chk 97 p = true := chk_by (h := 61) (by decide +kernel) (fun p h => by show cond (Nat.ble p 61) _ iD = iD; rw [h]; rfl)
set_option maxRecDepth 100000 in
theorem k98 : ∀ p, chk 98 p = true := chk_by (h := 29) (by decide +kernel) (fun p h => by show cond (Nat.ble p 29) _ iD = iD; rw [h]; rfl)
set_option maxRecDepth 100000 in
theorem k99 : ∀ p, chk 99 p = true := chk_by (h := 158) (by decide +kernel) (fun p h => by show cond (Nat.ble p 158) _ iD = iD; rw [h]; rfl)
set_option maxRecDepth 100000 in
theorem k100 : ∀ p, chk 100 p = true := chk_by (h := 15) (by decide +kernel) (fun p h => by show cond (Nat.ble p 15) _ iD = iD; rw [h]; rfl)
set_option maxRecDepth 100000 in
theorem k101 : ∀ p, chk 101 p = true := chk_by (h := 21) (by decide +kernel) (fun p h => by show cond (Nat.ble p 21) _ iD = iD; rw [h]; rfl)
set_option maxRecDepth 100000 in
theorem k102 : ∀ p, chk 102 p = true := chk_by (h := 39) (by decide +kernel) (fun p h => by show cond (Nat.ble p 39) _ iD = iD; rw [h]; rfl)
set_option maxRecDepth 100000 in
theorem k103 : ∀ p, chk 103 p = true := chk_by (h := 199) (by decide +kernel) (fun p h => by show cond (Nat.ble p 199) _ iD = iD; rw [h]; rfl)
set_option maxRecDepth 100000 in
theorem k104 : ∀ p, chk 104 p = true := chk_by (h := 64) (by decide +kernel) (fun p h => by show cond (Nat.ble p 64) _ iD = iD; rw [h]; rfl)
set_option maxRecDepth 100000 in
theorem k105 : ∀ p, chk 105 p = true := chk_by (h := 26) (by decide +kernel) (fun p h => by show cond (Nat.ble p 26) _ iD = iD; rw [h]; rfl)
set_option maxRecDepth 100000 in
theorem k106 : ∀ p, chk 106 p = true := chk_by (h := 97) (by decide +kernel) (fun p h => by show cond (Nat.ble p 97) _ iD = iD; rw [h]; rfl)
set_option maxRecDepth 100000 in
theorem k109 : ∀ p, chk 109 p = true := chk_by (h := 196) (by decide +kernel) (fun p h => by show cond (Nat.ble p 196) _ iD = iD; rw [h]; rfl)
set_option maxRecDepth 100000 in
theorem k111 : ∀ p, chk 111 p = true := chk_by (h := 205) (by decide +kernel) (fun p h => by show cond (Nat.ble p 205) _ iD = iD; rw [h]; rfl)
set_option maxRecDepth 100000 in
theorem k112 : ∀ p, chk 112 p = true := chk_by (h := 132) (by decide +kernel) (fun p h => by show cond (Nat.ble p 132) _ iD = iD; rw [h]; rfl)
set_option maxRecDepth 100000 in
theorem k114 : ∀ p, chk 114 p = true := chk_by (h := 14) (by decide +kernel) (fun p h => by show cond (Nat.ble p 14) _ iD = iD; rw [h]; rfl)
set_option maxRecDepth 100000 in
theorem k115 : ∀ p, chk 115 p = true := chk_by (h := 37) (by decide +kernel) (fun p h => by show cond (Nat.ble p 37) _ iD = iD; rw [h]; rfl)
set_option maxRecDepth 100000 in
theorem k116 : ∀ p, chk 116 p = true := chk_by (h := 42) (by decide +kernel) (fun p h => by show cond (Nat.ble p 42) _ iD = iD; rw [h]; rfl)
set_option maxRecDepth 100000 in
theorem k117 : ∀ p, chk 117 p = true := chk_by (h := 10) (by decide +kernel) (fun p h => by show cond (Nat.ble p 10) _ iD = iD; rw [h]; rfl)
set_option maxRecDepth 100000 in
theorem k119 : ∀ p, chk 119 p = true := chk_by (h := 26) (by decide +kernel) (fun p h => by show cond (Nat.ble p 26) _ iD = iD; rw [h]; rfl)
set_option maxRecDepth 100000 in
theorem k122 : ∀ p, chk 122 p = true := chk_by (h := 26) (by decide +kernel) (fun p h => by show cond (Nat.ble p 26) _ iD = iD; rw [h]; rfl)
set_option maxRecDepth 100000 in
theorem k123 : ∀ p, chk 123 p = true := chk_by (h := 67) (by decide +kernel) (fun p h => by show cond (Nat.ble p 67) _ iD = iD; rw [h]; rfl)
set_option maxRecDepth 100000 in
theorem k124 : ∀ p, chk 124 p = true := chk_by (h := 26) (by decide +kernel) (fun p h => by show cond (Nat.ble p 26) _ iD = iD; rw [h]; rfl)
set_option maxRecDepth 100000 in
theorem k132 : ∀ p, chk 132 p = true := chk_by (h := 37) (by decide +kernel) (fun p h => by show cond (Nat.ble p 37) _ iD = iD; rw [h]; rfl)
set_option maxRecDepth 100000 in
theorem k134 : ∀ p, chk 134 p = true := chk_by (h := 48) (by decide +kernel) (fun p h => by show cond (Nat.ble p 48) _ iD = iD; rw [h]; rfl)
set_option maxRecDepth 100000 in
theorem k135 : ∀ p, chk 135 p = true := chk_by (h := 92) (by decide +kernel) (fun p h => by show cond (Nat.ble p 92) _ iD = iD; rw [h]; rfl)
set_option maxRecDepth 100000 in
theorem k137 : ∀ p, chk 137 p = true := chk_by (h := 58) (by decide +kernel) (fun p h => by show cond (Nat.ble p 58) _ iD = iD; rw [h]; rfl)
set_option maxRecDepth 100000 in
theorem k139 : ∀ p, chk 139 p = true := chk_by (h := 27) (by decide +kernel) (fun p h => by show cond (Nat.ble p 27) _ iD = iD; rw [h]; rfl)
set_option maxRecDepth 100000 in
theorem k140 : ∀ p, chk 140 p = true := chk_by (h := 33) (by decide +kernel) (fun p h => by show cond (Nat.ble p 33) _ iD = iD; rw [h]; rfl)
set_option maxRecDepth 100000 in
theorem k141 : ∀ p, chk 141 p = true := chk_by (h := 57) (by decide +kernel) (fun p h => by show cond (Nat.ble p 57) _ iD = iD; rw [h]; rfl)
set_option maxRecDepth 100000 in
theorem k142 : ∀ p, chk 142 p = true := chk_by (h := 39) (by decide +kernel) (fun p h => by show cond (Nat.ble p 39) _ iD = iD; rw [h]; rfl)
set_option maxRecDepth 100000 in
theorem k144 : ∀ p, chk 144 p = true := chk_by (h := 58) (by decide +kernel) (fun p h => by show cond (Nat.ble p 58) _ iD = iD; rw [h]; rfl)
set_option maxRecDepth 100000 in
theorem k146 : ∀ p, chk 146 p = true := chk_by (h := 82) (by decide +kernel) (fun p h => by show cond (Nat.ble p 82) _ iD = iD; rw [h]; rfl)
set_option maxRecDepth 100000 in
theorem k149 : ∀ p, chk 149 p = true := chk_by (h := 53) (by decide +kernel) (fun p h => by show cond (Nat.ble p 53) _ iD = iD; rw [h]; rfl)
set_option maxRecDepth 100000 in
theorem k152 : ∀ p, chk 152 p = true := chk_by (h := 23) (by decide +kernel) (fun p h => by show cond (Nat.ble p 23) _ iD = iD; rw [h]; rfl)
set_option maxRecDepth 100000 in
theorem k153 : ∀ p, chk 153 p = true := chk_by (h := 44) (by decide +kernel) (fun p h => by show cond (Nat.ble p 44) _ iD = iD; rw [h]; rfl)
set_option maxRecDepth 100000 in
theorem k154 : ∀ p, chk 154 p = true := chk_by (h := 26) (by decide +kernel) (fun p h => by show cond (Nat.ble p 26) _ iD = iD; rw [h]; rfl)
