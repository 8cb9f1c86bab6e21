/-! the world when all is made: counts, references (printed by wip/whole/gen16.norm.py) -/
def nFl : List Nat := [1, 1, 1, 1, 1, 3, 3, 3, 3, 3, 3, 3, 14, 14, 14, 14, 14, 14, 14, 14, 1, 11, 11, 11, 11, 11, 11, 88, 11, 11, 11, 11, 11, 11, 11, 11, 11, 1, 1, 1, 1, 1, 1, 5, 1, 5, 1, 1, 0, 0, 0, 0, 0, 0, 0, 0, 0, 0, 0, 0, 0, 0, 0, 0, 0, 0, 1, 0, 1]
def nF (k : Nat) : Nat := nFl.getD k 0
/-- what is made at a time: the class, the script, and of the rest (a text that is built, the words that it is fed in) as many cells as the places from 2000 on tell -/
def cF (g : Nat → Nat) (k : Nat) : Nat := cond (Nat.ble k 47 || Nat.beq k 68) (nF k) (cond (Nat.beq k 66 || Nat.ble 7001 k) 0 (g (2000 + k)))
theorem cF_47 {g : Nat → Nat} {k : Nat} (h : Nat.ble k 47 = true) : cF g k = nF k := by
  unfold cF; rw [h]; rfl
theorem cF_68 {g : Nat → Nat} : cF g 68 = 1 := rfl
theorem cF_ne {g : Nat → Nat} : cF g ≠ nF := fun e => absurd (congrFun e 66) (by show ¬ (0 : Nat) = 1; decide)
def sr0 (g : Nat → Nat) (i j : Nat) : Option (Nat × Nat) := cond (Nat.beq j 0) (some (1, 0)) (cond (Nat.beq j 1) (some (3, 0)) (cond (Nat.beq j 2) (some (20, 0)) (cond (Nat.beq j 6) (some (5, g 0)) (cond (Nat.beq j 7) (some (5, g 1)) (cond (Nat.beq j 8) (some (21, 0)) (cond (Nat.beq j 9) (some (21, 1)) (cond (Nat.beq j 10) (some (21, 2)) (cond (Nat.beq j 12) (some (37, 0)) (cond (Nat.beq j 13) (some (39, 0)) (cond (Nat.beq j 14) (some (46, 0)) (cond (Nat.beq j 15) (some (47, 0)) (none))))))))))))
def sr1 (g : Nat → Nat) (i j : Nat) : Option (Nat × Nat) := cond (Nat.beq j 0) (some (2, 0)) (none)
def sr3 (g : Nat → Nat) (i j : Nat) : Option (Nat × Nat) := cond (Nat.beq j 0) (some (4, 0)) (cond (Nat.beq j 1) (some (5, g 2)) (none))
def sr4 (g : Nat → Nat) (i j : Nat) : Option (Nat × Nat) := cond (Nat.beq j 0) (some (1, 0)) (none)
def sr5 (g : Nat → Nat) (i j : Nat) : Option (Nat × Nat) := cond (Nat.beq j 1) (some (6, i)) (cond (Nat.beq j 2) (some (7, i)) (cond (Nat.beq j 4) (some (8, i)) (cond (Nat.beq j 5) (some (9, i)) (cond (Nat.beq j 6) (some (10, i)) (cond (Nat.beq j 8) (some (11, i)) (cond (Nat.beq j 9) (some (12, i)) (none)))))))
def sr12 (g : Nat → Nat) (i j : Nat) : Option (Nat × Nat) := cond (Nat.beq j 0) (some (13, i)) (none)
def sr13 (g : Nat → Nat) (i j : Nat) : Option (Nat × Nat) := cond (Nat.beq j 0) (some (14, i)) (cond (Nat.beq j 1) (some (15, i)) (cond (Nat.beq j 2) (some (16, i)) (cond (Nat.beq j 3) (some (17, i)) (cond (Nat.beq j 4) (some (18, i)) (cond (Nat.beq j 5) (some (19, i)) (none))))))
def sr21 (g : Nat → Nat) (i j : Nat) : Option (Nat × Nat) := cond (Nat.beq j 0) (some (5, g (i + 3))) (cond (Nat.beq j 9) (some (22, i)) (cond (Nat.beq j 10) (some (23, i)) (cond (Nat.beq j 11) (some (24, i)) (cond (Nat.beq j 12) (some (25, i)) (cond (Nat.beq j 13) (some (26, i)) (cond (Nat.beq j 14) (some (28, i)) (cond (Nat.beq j 15) (some (12, i + 3)) (cond (Nat.beq j 16) (some (35, i)) (none)))))))))
def sr26 (i j : Nat) : Option (Nat × Nat) := some (27, 8 * i + j)
def sr28 (g : Nat → Nat) (i j : Nat) : Option (Nat × Nat) := cond (Nat.beq j 0) (some (29, i)) (cond (Nat.beq j 1) (some (30, i)) (cond (Nat.beq j 2) (some (31, i)) (cond (Nat.beq j 3) (some (32, i)) (cond (Nat.beq j 4) (some (33, i)) (cond (Nat.beq j 5) (some (34, i)) (none))))))
def sr35 (g : Nat → Nat) (i j : Nat) : Option (Nat × Nat) := cond (Nat.beq j 0) (some (36, i)) (none)
def sr37 (g : Nat → Nat) (i j : Nat) : Option (Nat × Nat) := cond (Nat.beq j 0) (some (38, 0)) (none)
def sr38 (i j : Nat) : Option (Nat × Nat) := some (21, j + 3)
def sr39 (g : Nat → Nat) (i j : Nat) : Option (Nat × Nat) := cond (Nat.beq j 2) (some (40, 0)) (cond (Nat.beq j 3) (some (41, 0)) (cond (Nat.beq j 4) (some (42, 0)) (cond (Nat.beq j 5) (some (44, 0)) (none))))
def sr42 (i j : Nat) : Option (Nat × Nat) := some (43, j)
def sr44 (i j : Nat) : Option (Nat × Nat) := some (45, j)
def sr49 (g : Nat → Nat) (i j : Nat) : Option (Nat × Nat) := cond (Nat.beq j 0) (cond (Nat.beq (g (10000 + 4 * i)) 0) none (some (g (10000 + 4 * i), g (10001 + 4 * i)))) none
def sr50 (g : Nat → Nat) (i j : Nat) : Option (Nat × Nat) := cond (Nat.beq j 0) (cond (Nat.beq (g (10002 + 4 * i)) 0) none (some (g (10002 + 4 * i), g (10003 + 4 * i)))) none
/-- the references that cells hold; g: which setup: of the bus, its draft, its reader's, of each state -/
def sr (g : Nat → Nat) (k i j : Nat) : Option (Nat × Nat) := (cond (Nat.ble k 21) (cond (Nat.ble k 4) (cond (Nat.ble k 1) (cond (Nat.ble k 0) (cond (Nat.beq k 0) (sr0 g i j) none) (cond (Nat.beq k 1) (sr1 g i j) none)) (cond (Nat.ble k 3) (cond (Nat.beq k 3) (sr3 g i j) none) (cond (Nat.beq k 4) (sr4 g i j) none))) (cond (Nat.ble k 12) (cond (Nat.ble k 5) (cond (Nat.beq k 5) (sr5 g i j) none) (cond (Nat.beq k 12) (sr12 g i j) none)) (cond (Nat.ble k 13) (cond (Nat.beq k 13) (sr13 g i j) none) (cond (Nat.beq k 21) (sr21 g i j) none)))) (cond (Nat.ble k 37) (cond (Nat.ble k 28) (cond (Nat.ble k 26) (cond (Nat.beq k 26) (sr26 i j) none) (cond (Nat.beq k 28) (sr28 g i j) none)) (cond (Nat.ble k 35) (cond (Nat.beq k 35) (sr35 g i j) none) (cond (Nat.beq k 37) (sr37 g i j) none))) (cond (Nat.ble k 39) (cond (Nat.ble k 38) (cond (Nat.beq k 38) (sr38 i j) none) (cond (Nat.beq k 39) (sr39 g i j) none)) (cond (Nat.ble k 42) (cond (Nat.beq k 42) (sr42 i j) none) (cond (Nat.ble k 44) (cond (Nat.beq k 44) (sr44 i j) none) (cond (Nat.beq k 49) (sr49 g i j) (cond (Nat.beq k 50) (sr50 g i j) none)))))))
