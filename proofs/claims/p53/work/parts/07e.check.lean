/-! the tables tell the code: every method (printed by wip/p53/gen16.py) -/
set_option maxRecDepth 100000 in
theorem k155 : ∀ p, chk 155 p = true := chk_by (h := 26) (by decide +kernel) (fun p h => by show cond (Nat.ble p 26) _ iD = iD; rw [h]; rfl)
set_option maxRecDepth 100000 in
theorem k156 : ∀ p, chk 156 p = true := chk_by (h := 20) (by decide +kernel) (fun p h => by show cond (Nat.ble p 20) _ iD = iD; rw [h]; rfl)
set_option maxRecDepth 100000 in
theorem k157 : ∀ p, chk 157 p = true := chk_by (h := 21) (by decide +kernel) (fun p h => by show cond (Nat.ble p 21) _ iD = iD; rw [h]; rfl)
set_option maxRecDepth 100000 in
theorem k158 : ∀ p, chk 158 p = true := chk_by (h := 29) (by decide +kernel) (fun p h => by show cond (Nat.ble p 29) _ iD = iD; rw [h]; rfl)
set_option maxRecDepth 100000 in
theorem k159 : ∀ p, chk 159 p = true := chk_by (h := 32) (by decide +kernel) (fun p h => by show cond (Nat.ble p 32) _ iD = iD; rw [h]; rfl)
set_option maxRecDepth 100000 in
theorem k180 : ∀ p, chk 180 p = true := chk_by (h := 19) (by decide +kernel) (fun p h => by show cond (Nat.ble p 19) _ iD = iD; rw [h]; rfl)
set_option maxRecDepth 100000 in
theorem k181 : ∀ p, chk 181 p = true := chk_by (h := 16) (by decide +kernel) (fun p h => by show cond (Nat.ble p 16) _ iD = iD; rw [h]; rfl)
set_option maxRecDepth 100000 in
theorem k182 : ∀ p, chk 182 p = true := chk_by (h := 109) (by decide +kernel) (fun p h => by show cond (Nat.ble p 109) _ iD = iD; rw [h]; rfl)
set_option maxRecDepth 100000 in
theorem k183 : ∀ p, chk 183 p = true := chk_by (h := 9) (by decide +kernel) (fun p h => by show cond (Nat.ble p 9) _ iD = iD; rw [h]; rfl)
set_option maxRecDepth 100000 in
theorem k184 : ∀ p, chk 184 p = true := chk_by (h := 39) (by decide +kernel) (fun p h => by show cond (Nat.ble p 39) _ iD = iD; rw [h]; rfl)
set_option maxRecDepth 100000 in
theorem k185 : ∀ p, chk 185 p = true := chk_by (h := 255) (by decide +kernel) (fun p h => by show cond (Nat.ble p 255) _ iD = iD; rw [h]; rfl)
set_option maxRecDepth 100000 in
theorem k186 : ∀ p, chk 186 p = true := chk_by (h := 66) (by decide +kernel) (fun p h => by show cond (Nat.ble p 66) _ iD = iD; rw [h]; rfl)
set_option maxRecDepth 100000 in
theorem k187 : ∀ p, chk 187 p = true := chk_by (h := 229) (by decide +kernel) (fun p h => by show cond (Nat.ble p 229) _ iD = iD; rw [h]; rfl)
set_option maxRecDepth 100000 in
theorem k188 : ∀ p, chk 188 p = true := chk_by (h := 412) (by decide +kernel) (fun p h => by show cond (Nat.ble p 412) _ iD = iD; rw [h]; rfl)
set_option maxRecDepth 100000 in
theorem k200 : ∀ p, chk 200 p = true := chk_by (h := 6) (by decide +kernel) (fun p h => by show cond (Nat.ble p 6) _ iD = iD; rw [h]; rfl)
set_option maxRecDepth 100000 in
theorem k201 : ∀ p, chk 201 p = true := chk_by (h := 38) (by decide +kernel) (fun p h => by show cond (Nat.ble p 38) _ iD = iD; rw [h]; rfl)
set_option maxRecDepth 100000 in
theorem k202 : ∀ p, chk 202 p = true := chk_by (h := 7) (by decide +kernel) (fun p h => by show cond (Nat.ble p 7) _ iD = iD; rw [h]; rfl)
set_option maxRecDepth 100000 in
theorem k203 : ∀ p, chk 203 p = true := chk_by (h := 44) (by decide +kernel) (fun p h => by show cond (Nat.ble p 44) _ iD = iD; rw [h]; rfl)
set_option maxRecDepth 100000 in
theorem k204 : ∀ p, chk 204 p = true := chk_by (h := 7) (by decide +kernel) (fun p h => by show cond (Nat.ble p 7) _ iD = iD; rw [h]; rfl)
set_option maxRecDepth 100000 in
theorem k205 : ∀ p, chk 205 p = true := chk_by (h := 76) (by decide +kernel) (fun p h => by show cond (Nat.ble p 76) _ iD = iD; rw [h]; rfl)
set_option maxRecDepth 100000 in
theorem k206 : ∀ p, chk 206 p = true := chk_by (h := 7) (by decide +kernel) (fun p h => by show cond (Nat.ble p 7) _ iD = iD; rw [h]; rfl)
set_option maxRecDepth 100000 in
theorem k207 : ∀ p, chk 207 p = true := chk_by (h := 54) (by decide +kernel) (fun p h => by show cond (Nat.ble p 54) _ iD = iD; rw [h]; rfl)
set_option maxRecDepth 100000 in
theorem k208 : ∀ p, chk 208 p = true := chk_by (h := 38) (by decide +kernel) (fun p h => by show cond (Nat.ble p 38) _ iD = iD; rw [h]; rfl)
set_option maxRecDepth 100000 in
theorem k209 : ∀ p, chk 209 p = true := chk_by (h := 58) (by decide +kernel) (fun p h => by show cond (Nat.ble p 58) _ iD = iD; rw [h]; rfl)
set_option maxRecDepth 100000 in
theorem k210 : ∀ p, chk 210 p = true := chk_by (h := 26) (by decide +kernel) (fun p h => by show cond (Nat.ble p 26) _ iD = iD; rw [h]; rfl)
set_option maxRecDepth 100000 in
theorem k211 : ∀ p, chk 211 p = true := chk_by (h := 32) (by decide +kernel) (fun p h => by show cond (Nat.ble p 32) _ iD = iD; rw [h]; rfl)
set_option maxRecDepth 100000 in
theorem k212 : ∀ p, chk 212 p = true := chk_by (h := 18) (by decide +kernel) (fun p h => by show cond (Nat.ble p 18) _ iD = iD; rw [h]; rfl)
set_option maxRecDepth 100000 in
theorem k213 : ∀ p, chk 213 p = true := chk_by (h := 12) (by decide +kernel) (fun p h => by show cond (Nat.ble p 12) _ iD = iD; rw [h]; rfl)
set_option maxRecDepth 100000 in
theorem k214 : ∀ p, chk 214 p = true := chk_by (h := 18) (by decide +kernel) (fun p h => by show cond (Nat.ble p 18) _ iD = iD; rw [h]; rfl)
set_option maxRecDepth 100000 in
theorem k215 : ∀ p, chk 215 p = true := chk_by (h := 21) (by decide +kernel) (fun p h => by show cond (Nat.ble p 21) _ iD = iD; rw [h]; rfl)
set_option maxRecDepth 100000 in
theorem k216 : ∀ p, chk 216 p = true := chk_by (h := 46) (by decide +kernel) (fun p h => by show cond (Nat.ble p 46) _ iD = iD; rw [h]; rfl)
set_option maxRecDepth 100000 in
theorem k217 : ∀ p, chk 217 p = true := chk_by (h := 120) (by decide +kernel) (fun p h => by show cond (Nat.ble p 120) _ iD = iD; rw [h]; rfl)
set_option maxRecDepth 100000 in
theorem k218 : ∀ p, chk 218 p = true := chk_by (h := 8) (by decide +kernel) (fun p h => by show cond (Nat.ble p 8) _ iD = iD; rw [h]; rfl)
set_option maxRecDepth 100000 in
theorem k219 : ∀ p, chk 219 p = true := chk_by (h := 6) (by decide +kernel) (fun p h => by show cond (Nat.ble p 6) _ iD = iD; rw [h]; rfl)
set_option maxRecDepth 100000 in
theorem k220 : ∀ p, chk 220 p = true := chk_by (h := 97) (by decide +kernel) (fun p h => by show cond (Nat.ble p 97) _ iD = iD; rw [h]; rfl)
set_option maxRecDepth 100000 in
theorem k221 : ∀ p, chk 221 p = true := chk_by (h := 4) (by decide +kernel) (fun p h => by show cond (Nat.ble p 4) _ iD = iD; rw [h]; rfl)
set_option maxRecDepth 100000 in
theorem k222 : ∀ p, chk 222 p = true := chk_by (h := 4) (by decide +kernel) (fun p h => by show cond (Nat.ble p 4) _ iD = iD; rw [h]; rfl)
set_option maxRecDepth 100000 in
theorem k223 : ∀ p, chk 223 p = true := chk_by (h := 4) (by decide +kernel) (fun p h => by show cond (Nat.ble p 4) _ iD = iD; rw [h]; rfl)
set_option maxRecDepth 100000 in
theorem k224 : ∀ p, chk 224 p = true := chk_by (h := 24) (by decide +kernel) (fun p h => by show cond (Nat.ble p 24) _ iD = iD; rw [h]; rfl)
set_option maxRecDepth 100000 in
theorem k225 : ∀ p, chk 225 p = true := chk_by (h := 32) (by decide +kernel) (fun p h => by show cond (Nat.ble p 32) _ iD = iD; rw [h]; rfl)
set_option maxRecDepth 100000 in
theorem k226 : ∀ p, chk 226 p = true := chk_by (h := 37) (by decide +kernel) (fun p h => by show cond (Nat.ble p 37) _ iD = iD; rw [h]; rfl)
set_option maxRecDepth 100000 in
theorem k227 : ∀ p, chk 227 p = true := chk_by (h := 10) (by decide +kernel) (fun p h => by show cond (Nat.ble p 10) _ iD = iD; rw [h]; rfl)
set_option maxRecDepth 100000 in
theorem k228 : ∀ p, chk 228 p = true := chk_by (h := 14) (by decide +kernel) (fun p h => by show cond (Nat.ble p 14) _ iD = iD; rw [h]; rfl)
set_option maxRecDepth 100000 in
theorem k229 : ∀ p, chk 229 p = true := chk_by (h := 18) (by decide +kernel) (fun p h => by show cond (Nat.ble p 18) _ iD = iD; rw [h]; rfl)
set_option maxRecDepth 100000 in
theorem k230 : ∀ p, chk 230 p = true := chk_by (h := 24) (by decide +kernel) (fun p h => by show cond (Nat.ble p 24) _ iD = iD; rw [h]; rfl)
set_option maxRecDepth 100000 in
theorem k231 : ∀ p, chk 231 p = true := chk_by (h := 14) (by decide +kernel) (fun p h => by show cond (Nat.ble p 14) _ iD = iD; rw [h]; rfl)
set_option maxRecDepth 100000 in
theorem k232 : ∀ p, chk 232 p = true := chk_by (h := 9) (by decide +kernel) (fun p h => by show cond (Nat.ble p 9) _ iD = iD; rw [h]; rfl)
set_option maxRecDepth 100000 in
theorem k234 : ∀ p, chk 234 p = true := chk_by (h := 43) (by decide +kernel) (fun p h => by show cond (Nat.ble p 43) _ iD = iD; rw [h]; rfl)
set_option maxRecDepth 100000 in
theorem k300 : ∀ p, chk 300 p = true := chk_by (h := 419) (by decide +kernel) (fun p h => by show cond (Nat.ble p 419) _ iD = iD; rw [h]; rfl)
