/-! the world when all is made: counts, references (printed by wip/whole/gen16.norm.py) -/
def nFl : List Nat := [1, 1, 1, 1, 1, 3, 3, 3, 3, 3, 3, 3, 14, 14, 14, 14, 14, 14, 14, 14, 1, 11, 11, 11, 11, 11, 11, 88, 11, 11, 11, 11, 11, 11, 11, 11, 11, 1, 1, 1, 1, 1, 1, 5, 1, 5, 1, 1, 1, 1, 1, 1, 1, 1, 1, 1, 1, 1, 1, 1, 1, 1, 1, 1, 1, 1, 1, 1, 1]
def nF (k : Nat) : Nat := nFl.getD k 0
/-- what is made at a time: all (0), the class alone (1), the class and the model (2); the time is kept in place 1000 of the setups -/
def nF1 (k : Nat) : Nat := cond (Nat.ble k 47 || Nat.beq k 68) (nF k) 0
def nF2 (k : Nat) : Nat := cond (Nat.ble k 65 || Nat.beq k 68) (nF k) 0
def cF (g : Nat → Nat) : Nat → Nat := if g 1000 = 1 then nF1 else if g 1000 = 2 then nF2 else nF
theorem cF_47 {g : Nat → Nat} {k : Nat} (h : Nat.ble k 47 = true) : cF g k = nF k := by
  have h1 : nF1 k = nF k := by unfold nF1; rw [h]; rfl
  have h2 : nF2 k = nF k := by
    have : Nat.ble k 65 = true := Nat.ble_eq_true_of_le (Nat.le_trans (Nat.le_of_ble_eq_true h) (by decide))
    unfold nF2; rw [this]; rfl
  unfold cF
  by_cases a : g 1000 = 1
  · rw [if_pos a, h1]
  · rw [if_neg a]
    by_cases b : g 1000 = 2
    · rw [if_pos b, h2]
    · rw [if_neg b]
def sr0 (g : Nat → Nat) (i j : Nat) : Option (Nat × Nat) := cond (Nat.beq j 0) (some (1, 0)) (cond (Nat.beq j 1) (some (3, 0)) (cond (Nat.beq j 2) (some (20, 0)) (cond (Nat.beq j 6) (some (5, g 0)) (cond (Nat.beq j 7) (some (5, g 1)) (cond (Nat.beq j 8) (some (21, 0)) (cond (Nat.beq j 9) (some (21, 1)) (cond (Nat.beq j 10) (some (21, 2)) (cond (Nat.beq j 12) (some (37, 0)) (cond (Nat.beq j 13) (some (39, 0)) (cond (Nat.beq j 14) (some (46, 0)) (cond (Nat.beq j 15) (some (47, 0)) (none))))))))))))
def sr1 (g : Nat → Nat) (i j : Nat) : Option (Nat × Nat) := cond (Nat.beq j 0) (some (2, 0)) (none)
def sr3 (g : Nat → Nat) (i j : Nat) : Option (Nat × Nat) := cond (Nat.beq j 0) (some (4, 0)) (cond (Nat.beq j 1) (some (5, g 2)) (none))
def sr4 (g : Nat → Nat) (i j : Nat) : Option (Nat × Nat) := cond (Nat.beq j 0) (some (1, 0)) (none)
def sr5 (g : Nat → Nat) (i j : Nat) : Option (Nat × Nat) := cond (Nat.beq j 1) (some (6, i)) (cond (Nat.beq j 2) (some (7, i)) (cond (Nat.beq j 4) (some (8, i)) (cond (Nat.beq j 5) (some (9, i)) (cond (Nat.beq j 6) (some (10, i)) (cond (Nat.beq j 8) (some (11, i)) (cond (Nat.beq j 9) (some (12, i)) (none)))))))
def sr12 (g : Nat → Nat) (i j : Nat) : Option (Nat × Nat) := cond (Nat.beq j 0) (some (13, i)) (none)
def sr13 (g : Nat → Nat) (i j : Nat) : Option (Nat × Nat) := cond (Nat.beq j 0) (some (14, i)) (cond (Nat.beq j 1) (some (15, i)) (cond (Nat.beq j 2) (some (16, i)) (cond (Nat.beq j 3) (some (17, i)) (cond (Nat.beq j 4) (some (18, i)) (cond (Nat.beq j 5) (some (19, i)) (none))))))
def sr21 (g : Nat → Nat) (i j : Nat) : Option (Nat × Nat) := cond (Nat.beq j 0) (some (5, g (i + 3))) (cond (Nat.beq j 9) (some (22, i)) (cond (Nat.beq j 10) (some (23, i)) (cond (Nat.beq j 11) (some (24, i)) (cond (Nat.beq j 12) (some (25, i)) (cond (Nat.beq j 13) (some (26, i)) (cond (Nat.beq j 14) (some (28, i)) (cond (Nat.beq j 15) (some (12, i + 3)) (cond (Nat.beq j 16) (some (35, i)) (none)))))))))
def sr26 (i j : Nat) : Option (Nat × Nat) := some (27, 8 * i + j)
def sr28 (g : Nat → Nat) (i j : Nat) : Option (Nat × Nat) := cond (Nat.beq j 0) (some (29, i)) (cond (Nat.beq j 1) (some (30, i)) (cond (Nat.beq j 2) (some (31, i)) (cond (Nat.beq j 3) (some (32, i)) (cond (Nat.beq j 4) (some (33, i)) (cond (Nat.beq j 5) (some (34, i)) (none))))))
def sr35 (g : Nat → Nat) (i j : Nat) : Option (Nat × Nat) := cond (Nat.beq j 0) (some (36, i)) (none)
def sr37 (g : Nat → Nat) (i j : Nat) : Option (Nat × Nat) := cond (Nat.beq j 0) (some (38, 0)) (none)
def sr38 (i j : Nat) : Option (Nat × Nat) := some (21, j + 3)
def sr39 (g : Nat → Nat) (i j : Nat) : Option (Nat × Nat) := cond (Nat.beq j 2) (some (40, 0)) (cond (Nat.beq j 3) (some (41, 0)) (cond (Nat.beq j 4) (some (42, 0)) (cond (Nat.beq j 5) (some (44, 0)) (none))))
def sr42 (i j : Nat) : Option (Nat × Nat) := some (43, j)
def sr44 (i j : Nat) : Option (Nat × Nat) := some (45, j)
def sr48 (g : Nat → Nat) (i j : Nat) : Option (Nat × Nat) := cond (Nat.beq j 8) (some (49, 0)) (cond (Nat.beq j 9) (some (50, 0)) (cond (Nat.beq j 10) (some (51, 0)) (cond (Nat.beq j 11) (some (52, 0)) (cond (Nat.beq j 12) (some (53, 0)) (cond (Nat.beq j 13) (some (54, 0)) (cond (Nat.beq j 14) (some (55, 0)) (cond (Nat.beq j 15) (some (56, 0)) (cond (Nat.beq j 16) (some (57, 0)) (cond (Nat.beq j 20) (some (58, 0)) (cond (Nat.beq j 21) (some (59, 0)) (cond (Nat.beq j 22) (some (60, 0)) (cond (Nat.beq j 36) (some (61, 0)) (cond (Nat.beq j 37) (some (62, 0)) (cond (Nat.beq j 38) (some (63, 0)) (cond (Nat.beq j 39) (some (64, 0)) (cond (Nat.beq j 40) (some (65, 0)) (none)))))))))))))))))
/-- the references that cells hold; g: which setup: of the bus, its draft, its reader's, of each state -/
def sr (g : Nat → Nat) (k i j : Nat) : Option (Nat × Nat) := (cond (Nat.ble k 21) (cond (Nat.ble k 4) (cond (Nat.ble k 1) (cond (Nat.ble k 0) (cond (Nat.beq k 0) (sr0 g i j) none) (cond (Nat.beq k 1) (sr1 g i j) none)) (cond (Nat.ble k 3) (cond (Nat.beq k 3) (sr3 g i j) none) (cond (Nat.beq k 4) (sr4 g i j) none))) (cond (Nat.ble k 12) (cond (Nat.ble k 5) (cond (Nat.beq k 5) (sr5 g i j) none) (cond (Nat.beq k 12) (sr12 g i j) none)) (cond (Nat.ble k 13) (cond (Nat.beq k 13) (sr13 g i j) none) (cond (Nat.beq k 21) (sr21 g i j) none)))) (cond (Nat.ble k 37) (cond (Nat.ble k 28) (cond (Nat.ble k 26) (cond (Nat.beq k 26) (sr26 i j) none) (cond (Nat.beq k 28) (sr28 g i j) none)) (cond (Nat.ble k 35) (cond (Nat.beq k 35) (sr35 g i j) none) (cond (Nat.beq k 37) (sr37 g i j) none))) (cond (Nat.ble k 39) (cond (Nat.ble k 38) (cond (Nat.beq k 38) (sr38 i j) none) (cond (Nat.beq k 39) (sr39 g i j) none)) (cond (Nat.ble k 42) (cond (Nat.beq k 42) (sr42 i j) none) (cond (Nat.ble k 44) (cond (Nat.beq k 44) (sr44 i j) none) (cond (Nat.beq k 48) (sr48 g i j) none))))))
