/-! the words of the tables, by their places (printed by wip/whole/gen7.py) -/
theorem in_by (ws : List Cond) (ps : List Nat) (h : ws = ps.filterMap (fun i => lw_tbl[i]?)) (g : ws.all goodWord = true) : ∀ w ∈ ws, w ∈ TT := fun w hw => by
  refine TT_in ?_ (List.all_eq_true.mp g w hw)
  rw [h] at hw
  obtain ⟨i, -, hi⟩ := List.mem_filterMap.mp hw
  exact List.mem_of_getElem? hi
theorem in_map {α : Type} (l : List α) (mk : α → Cond) (h : ∀ w ∈ l.map mk, w ∈ TT) : ∀ a ∈ l, mk a ∈ TT := fun a ha => h _ (List.mem_map.mpr ⟨a, ha, rfl⟩)
theorem tp1 {w : Cond} (h : w ∈ tables_1_1) : w ∈ lw_tbl := List.mem_append_right _ (show w ∈ tables_1 from List.mem_append_left _ h)
theorem tp2 {w : Cond} (h : w ∈ tables_1_2) : w ∈ lw_tbl := List.mem_append_right _ (show w ∈ tables_1 from List.mem_append_right _ (List.mem_append_left _ h))
theorem tp3 {w : Cond} (h : w ∈ tables_1_3) : w ∈ lw_tbl := List.mem_append_right _ (show w ∈ tables_1 from List.mem_append_right _ (List.mem_append_right _ (List.mem_append_left _ h)))
theorem tp4 {w : Cond} (h : w ∈ tables_1_4) : w ∈ lw_tbl := List.mem_append_right _ (show w ∈ tables_1 from List.mem_append_right _ (List.mem_append_right _ (List.mem_append_right _ (List.mem_append_left _ h))))
theorem tp5 {w : Cond} (h : w ∈ tables_1_5) : w ∈ lw_tbl := List.mem_append_right _ (show w ∈ tables_1 from List.mem_append_right _ (List.mem_append_right _ (List.mem_append_right _ (List.mem_append_right _ (List.mem_append_left _ h)))))
theorem tp6 {w : Cond} (h : w ∈ tables_1_6) : w ∈ lw_tbl := List.mem_append_right _ (show w ∈ tables_1 from List.mem_append_right _ (List.mem_append_right _ (List.mem_append_right _ (List.mem_append_right _ (List.mem_append_right _ (h))))))
def FLd : List (Nat × Nat × Nat × Nat) := [(0, 9, 0, 0), (0, 15, 0, 1), (0, 18, 0, 2), (0, 21, 0, 3), (0, 24, 0, 4), (0, 27, 0, 5), (1, 11, 1, 0), (1, 15, 1, 1), (1, 19, 1, 2), (1, 28, 5, 0), (2, 11, 2, 0), (2, 17, 2, 1), (2, 21, 2, 2), (3, 9, 3, 0), (3, 15, 3, 1), (4, 9, 4, 0), (4, 15, 4, 1), (4, 18, 4, 2), (4, 22, 4, 3), (4, 27, 4, 4), (4, 30, 4, 5), (4, 33, 8, 0), (4, 39, 6, 0), (4, 46, 6, 3), (4, 53, 8, 13), (4, 56, 6, 6), (5, 13, 5, 0), (5, 16, 5, 1), (5, 20, 5, 2), (7, 9, 6, 0), (7, 15, 6, 1), (7, 19, 6, 2), (7, 23, 6, 3), (7, 26, 6, 4), (7, 29, 6, 5), (7, 32, 6, 6), (7, 35, 6, 7), (7, 38, 6, 8), (7, 44, 6, 9), (8, 12, 7, 1), (8, 18, 7, 2), (8, 22, 7, 3), (8, 25, 7, 4), (8, 33, 7, 0), (8, 43, 9, 1), (8, 53, 6, 0), (8, 56, 6, 3), (8, 63, 9, 2), (8, 147, 6, 9), (8, 151, 5, 1), (8, 162, 6, 7), (8, 168, 6, 8), (9, 9, 8, 1), (9, 15, 8, 2), (9, 18, 8, 3), (9, 21, 8, 4), (9, 25, 8, 5), (9, 28, 8, 6), (9, 31, 8, 7), (9, 34, 8, 8), (9, 37, 8, 9), (9, 41, 8, 10), (9, 44, 8, 11), (9, 47, 8, 12), (9, 53, 8, 13), (9, 59, 8, 14), (9, 66, 8, 15), (9, 73, 8, 16), (9, 77, 8, 0), (9, 81, 6, 7), (9, 84, 6, 9), (9, 85, 5, 1), (9, 94, 6, 2), (9, 95, 6, 5), (9, 124, 0, 2), (9, 127, 6, 8), (9, 130, 0, 3), (9, 145, 5, 0), (9, 152, 0, 0), (9, 153, 0, 1), (9, 183, 5, 2), (9, 207, 6, 3), (9, 210, 6, 0), (10, 11, 9, 1), (10, 15, 9, 2), (10, 18, 9, 3), (10, 21, 9, 0), (10, 28, 3, 1), (11, 10, 10, 0), (11, 21, 10, 1), (11, 25, 10, 2), (11, 29, 10, 3), (11, 33, 10, 4), (11, 36, 10, 5), (11, 42, 10, 6), (11, 46, 10, 7), (11, 54, 10, 8), (11, 58, 10, 9), (11, 61, 10, 10), (11, 64, 10, 11), (11, 71, 10, 12), (11, 78, 10, 13), (11, 82, 10, 14), (11, 86, 10, 15), (11, 102, 3, 1), (11, 113, 7, 3), (11, 116, 7, 4), (11, 119, 2, 2), (11, 122, 6, 0), (11, 125, 6, 8), (11, 128, 6, 3), (11, 131, 8, 1), (11, 134, 8, 2), (11, 137, 8, 15), (11, 147, 8, 8), (11, 150, 8, 7), (11, 153, 8, 3), (11, 156, 8, 5), (11, 159, 8, 6), (11, 176, 8, 14), (11, 180, 0, 0), (11, 185, 0, 1), (11, 188, 6, 6), (11, 191, 0, 2), (11, 198, 8, 4), (11, 205, 0, 3), (11, 208, 0, 4), (11, 211, 0, 5), (11, 224, 8, 10), (11, 227, 8, 11), (11, 230, 8, 9), (11, 256, 5, 0), (11, 270, 5, 2), (11, 289, 4, 2), (11, 299, 4, 3), (11, 302, 4, 1), (11, 353, 5, 1), (14, 9, 12, 0), (14, 15, 12, 1), (14, 1048, 11, 2), (16, 15, 11, 0), (16, 22, 11, 1), (16, 79, 11, 3)]
def vcd : vw_C := ("", fun _ => ("", "", "", false), 0)
def vck (c : Nat) : vw_C := vcl.getD c vcd
def mkF (e : Nat × Nat × Nat × Nat) : Cond := .fieldLink (RN e.1) e.2.1 ((vck e.2.2.1).2.1 e.2.2.2).1 ((vck e.2.2.1).2.1 e.2.2.2).2.1 ((vck e.2.2.1).2.1 e.2.2.2).2.2.1
def FLd_0 : List (Nat × Nat × Nat × Nat) := [(0, 9, 0, 0), (0, 15, 0, 1), (0, 18, 0, 2), (0, 21, 0, 3), (0, 24, 0, 4), (0, 27, 0, 5), (1, 11, 1, 0), (1, 15, 1, 1), (1, 19, 1, 2), (1, 28, 5, 0), (2, 11, 2, 0), (2, 17, 2, 1), (2, 21, 2, 2), (3, 9, 3, 0), (3, 15, 3, 1), (4, 9, 4, 0), (4, 15, 4, 1), (4, 18, 4, 2), (4, 22, 4, 3), (4, 27, 4, 4), (4, 30, 4, 5), (4, 33, 8, 0), (4, 39, 6, 0), (4, 46, 6, 3), (4, 53, 8, 13), (4, 56, 6, 6), (5, 13, 5, 0), (5, 16, 5, 1), (5, 20, 5, 2), (7, 9, 6, 0), (7, 15, 6, 1), (7, 19, 6, 2), (7, 23, 6, 3), (7, 26, 6, 4), (7, 29, 6, 5), (7, 32, 6, 6), (7, 35, 6, 7), (7, 38, 6, 8), (7, 44, 6, 9), (8, 12, 7, 1), (8, 18, 7, 2), (8, 22, 7, 3), (8, 25, 7, 4), (8, 33, 7, 0), (8, 43, 9, 1), (8, 53, 6, 0), (8, 56, 6, 3), (8, 63, 9, 2), (8, 147, 6, 9), (8, 151, 5, 1), (8, 162, 6, 7), (8, 168, 6, 8), (9, 9, 8, 1), (9, 15, 8, 2), (9, 18, 8, 3), (9, 21, 8, 4), (9, 25, 8, 5), (9, 28, 8, 6), (9, 31, 8, 7), (9, 34, 8, 8)]
set_option maxRecDepth 100000 in
theorem FLd_in0 : ∀ e ∈ FLd_0, mkF e ∈ TT := in_map _ _ (in_by _ [236, 239, 242, 245, 248, 250, 273, 274, 275, 109, 359, 360, 361, 78, 79, 377, 378, 380, 382, 384, 385, 284, 133, 141, 309, 149, 108, 112, 116, 132, 137, 138, 140, 145, 146, 148, 151, 154, 158, 204, 205, 206, 208, 203, 190, 134, 142, 192, 160, 114, 153, 157, 285, 287, 289, 291, 293, 295, 297, 299] (by decide +kernel) (by decide +kernel))
def FLd_1 : List (Nat × Nat × Nat × Nat) := [(9, 37, 8, 9), (9, 41, 8, 10), (9, 44, 8, 11), (9, 47, 8, 12), (9, 53, 8, 13), (9, 59, 8, 14), (9, 66, 8, 15), (9, 73, 8, 16), (9, 77, 8, 0), (9, 81, 6, 7), (9, 84, 6, 9), (9, 85, 5, 1), (9, 94, 6, 2), (9, 95, 6, 5), (9, 124, 0, 2), (9, 127, 6, 8), (9, 130, 0, 3), (9, 145, 5, 0), (9, 152, 0, 0), (9, 153, 0, 1), (9, 183, 5, 2), (9, 207, 6, 3), (9, 210, 6, 0), (10, 11, 9, 1), (10, 15, 9, 2), (10, 18, 9, 3), (10, 21, 9, 0), (10, 28, 3, 1), (11, 10, 10, 0), (11, 21, 10, 1), (11, 25, 10, 2), (11, 29, 10, 3), (11, 33, 10, 4), (11, 36, 10, 5), (11, 42, 10, 6), (11, 46, 10, 7), (11, 54, 10, 8), (11, 58, 10, 9), (11, 61, 10, 10), (11, 64, 10, 11), (11, 71, 10, 12), (11, 78, 10, 13), (11, 82, 10, 14), (11, 86, 10, 15), (11, 102, 3, 1), (11, 113, 7, 3), (11, 116, 7, 4), (11, 119, 2, 2), (11, 122, 6, 0), (11, 125, 6, 8), (11, 128, 6, 3), (11, 131, 8, 1), (11, 134, 8, 2), (11, 137, 8, 15), (11, 147, 8, 8), (11, 150, 8, 7), (11, 153, 8, 3), (11, 156, 8, 5), (11, 159, 8, 6), (11, 176, 8, 14)]
set_option maxRecDepth 100000 in
theorem FLd_in1 : ∀ e ∈ FLd_1, mkF e ∈ TT := in_map _ _ (in_by _ [301, 303, 305, 307, 308, 310, 312, 314, 283, 152, 159, 113, 139, 147, 243, 155, 246, 110, 238, 241, 118, 144, 136, 189, 191, 193, 188, 81, 430, 431, 432, 433, 434, 435, 436, 437, 438, 439, 440, 441, 442, 443, 444, 445, 80, 207, 209, 362, 135, 156, 143, 286, 288, 313, 300, 298, 290, 294, 296, 311] (by decide +kernel) (by decide +kernel))
def FLd_2 : List (Nat × Nat × Nat × Nat) := [(11, 180, 0, 0), (11, 185, 0, 1), (11, 188, 6, 6), (11, 191, 0, 2), (11, 198, 8, 4), (11, 205, 0, 3), (11, 208, 0, 4), (11, 211, 0, 5), (11, 224, 8, 10), (11, 227, 8, 11), (11, 230, 8, 9), (11, 256, 5, 0), (11, 270, 5, 2), (11, 289, 4, 2), (11, 299, 4, 3), (11, 302, 4, 1), (11, 353, 5, 1), (14, 9, 12, 0), (14, 15, 12, 1), (14, 1048, 11, 2), (16, 15, 11, 0), (16, 22, 11, 1), (16, 79, 11, 3)]
set_option maxRecDepth 100000 in
theorem FLd_in2 : ∀ e ∈ FLd_2, mkF e ∈ TT := in_map _ _ (in_by _ [237, 240, 150, 244, 292, 247, 249, 251, 304, 306, 302, 111, 117, 381, 383, 379, 115, 1264, 1265, 1053, 1051, 1052, 1054] (by decide +kernel) (by decide +kernel))
set_option maxRecDepth 100000 in
theorem FLd_ap : FLd = FLd_0 ++ (FLd_1 ++ (FLd_2)) := by rfl
theorem FLd_in : ∀ e ∈ FLd, mkF e ∈ TT := fun e h => by
  rw [FLd_ap] at h
  exact (List.mem_append.mp h).elim (fun h => FLd_in0 e h) (fun h => (List.mem_append.mp h).elim (fun h => FLd_in1 e h) (fun h => FLd_in2 e h))
theorem FLd_ok : ∀ e ∈ FLd, e.2.2.2 < (vck e.2.2.1).2.2 ∧ e.2.2.1 < vcl.length := by decide +kernel
def LYd : List (Nat × Nat) := [(0, 0), (0, 1), (0, 2), (0, 3), (0, 4), (0, 5), (1, 0), (1, 1), (1, 2), (2, 0), (2, 1), (2, 2), (3, 0), (3, 1), (4, 0), (4, 1), (4, 2), (4, 3), (4, 4), (4, 5), (5, 0), (5, 1), (5, 2), (6, 0), (6, 1), (6, 2), (6, 3), (6, 4), (6, 5), (6, 6), (6, 7), (6, 8), (6, 9), (7, 0), (7, 1), (7, 2), (7, 3), (7, 4), (8, 0), (8, 1), (8, 2), (8, 3), (8, 4), (8, 5), (8, 6), (8, 7), (8, 8), (8, 9), (8, 10), (8, 11), (8, 12), (8, 13), (8, 14), (8, 15), (8, 16), (9, 0), (9, 1), (9, 2), (9, 3), (10, 0), (10, 1), (10, 2), (10, 3), (10, 4), (10, 5), (10, 6), (10, 7), (10, 8), (10, 9), (10, 10), (10, 11), (10, 12), (10, 13), (10, 14), (10, 15), (11, 0), (11, 1), (11, 2), (11, 3), (12, 0), (12, 1), (12, 2), (12, 3)]
def mkL (e : Nat × Nat) : Cond := u_lay (vck e.1).1 (vck e.1).2.1 e.2
def LYd_0 : List (Nat × Nat) := [(0, 0), (0, 1), (0, 2), (0, 3), (0, 4), (0, 5), (1, 0), (1, 1), (1, 2), (2, 0), (2, 1), (2, 2), (3, 0), (3, 1), (4, 0), (4, 1), (4, 2), (4, 3), (4, 4), (4, 5), (5, 0), (5, 1), (5, 2), (6, 0), (6, 1), (6, 2), (6, 3), (6, 4), (6, 5), (6, 6), (6, 7), (6, 8), (6, 9), (7, 0), (7, 1), (7, 2), (7, 3), (7, 4), (8, 0), (8, 1), (8, 2), (8, 3), (8, 4), (8, 5), (8, 6), (8, 7), (8, 8), (8, 9), (8, 10), (8, 11), (8, 12), (8, 13), (8, 14), (8, 15), (8, 16), (9, 0), (9, 1), (9, 2), (9, 3), (10, 0)]
set_option maxRecDepth 100000 in
theorem LYd_in0 : ∀ e ∈ LYd_0, mkL e ∈ TT := in_map _ _ (in_by _ [252, 254, 256, 258, 260, 262, 276, 278, 280, 363, 365, 367, 82, 84, 386, 388, 390, 392, 394, 396, 119, 121, 123, 161, 163, 165, 167, 169, 171, 173, 175, 177, 179, 210, 212, 214, 216, 218, 315, 317, 319, 321, 323, 325, 327, 329, 331, 333, 335, 337, 339, 341, 343, 345, 347, 194, 196, 198, 200, 446] (by decide +kernel) (by decide +kernel))
def LYd_1 : List (Nat × Nat) := [(10, 1), (10, 2), (10, 3), (10, 4), (10, 5), (10, 6), (10, 7), (10, 8), (10, 9), (10, 10), (10, 11), (10, 12), (10, 13), (10, 14), (10, 15), (11, 0), (11, 1), (11, 2), (11, 3), (12, 0), (12, 1), (12, 2), (12, 3)]
set_option maxRecDepth 100000 in
theorem LYd_in1 : ∀ e ∈ LYd_1, mkL e ∈ TT := in_map _ _ (in_by _ [448, 450, 452, 454, 456, 458, 460, 462, 464, 466, 468, 470, 472, 474, 476, 1055, 1057, 1059, 1061, 1266, 1268, 1270, 1272] (by decide +kernel) (by decide +kernel))
set_option maxRecDepth 100000 in
theorem LYd_ap : LYd = LYd_0 ++ (LYd_1) := by rfl
theorem LYd_in : ∀ e ∈ LYd, mkL e ∈ TT := fun e h => by
  rw [LYd_ap] at h
  exact (List.mem_append.mp h).elim (fun h => LYd_in0 e h) (fun h => LYd_in1 e h)
theorem LYd_all : ∀ c, c < vcl.length → ∀ k, k < (vck c).2.2 → (c, k) ∈ LYd := by decide +kernel
theorem lay_in {c : Nat} (hc : c < vcl.length) : ∀ w ∈ u_ws (vck c).1 (vck c).2.1 (vck c).2.2, w ∈ TT := fun w hw => by
  obtain ⟨k, hk, rfl⟩ := List.mem_map.mp hw
  exact LYd_in (c, k) (LYd_all c hc k (List.mem_range.mp hk))
def vty (c : Nat) : Nat → FieldType := [tyX0, tyX1, tyX2, tyX3, tyX4, tyX5, tyX7, tyX8, tyX9, tyX10, tyX11, tyJ4, tyJ0].getD c tyX0
theorem vty_ok : ∀ c, c < vcl.length → ∀ k, k < (vck c).2.2 → parseFieldDescriptor ((vck c).2.1 k).2.2.1 = some (vty c k) := by decide +kernel
theorem vnm_ok : ∀ c, c < vcl.length → ∀ a, a < (vck c).2.2 → ∀ b, b < (vck c).2.2 → a ≠ b → ((vck c).2.1 a).2.1 ≠ ((vck c).2.1 b).2.1 := by decide +kernel
theorem vft_ok : ∀ c, c < vcl.length → ∀ k, k < (vck c).2.2 → (ft c k = 0 ∧ vty c k = .int) ∨ (ft c k = 1 ∧ vty c k = .boolean) ∨ (ft c k = 2 ∧ vty c k = .long) ∨ ((ft c k = 3 ∨ ft c k = 4) ∧ (ft c k = 3 → refKind (vty c k) = true) ∧ (ft c k = 4 → vty c k = .byte)) := by decide +kernel
def MLd : List (Nat × Nat × Nat × Nat) := [(2, 24, 70, 2), (2, 27, 72, 1), (3, 19, 18, 1), (4, 42, 26, 1), (4, 49, 73, 1), (4, 59, 27, 1), (4, 63, 28, 1), (4, 67, 31, 1), (4, 71, 32, 1), (5, 29, 40, 1), (7, 48, 53, 1), (7, 51, 34, 1), (8, 11, 51, 2), (8, 30, 93, 2), (8, 37, 52, 1), (8, 40, 94, 1), (8, 46, 62, 1), (8, 50, 61, 1), (8, 59, 60, 1), (8, 66, 95, 1), (8, 71, 97, 1), (8, 75, 63, 1), (8, 80, 65, 1), (8, 85, 66, 1), (8, 90, 67, 1), (8, 95, 68, 1), (8, 107, 98, 1), (8, 110, 100, 1), (8, 114, 56, 1), (8, 118, 64, 1), (8, 122, 54, 1), (8, 132, 57, 1), (8, 137, 69, 1), (8, 143, 55, 1), (8, 156, 36, 1), (8, 172, 101, 1), (8, 175, 102, 1), (9, 88, 43, 0), (9, 98, 1, 1), (9, 101, 35, 1), (9, 105, 9, 1), (9, 108, 44, 0), (9, 118, 2, 1), (9, 121, 10, 1), (9, 133, 79, 1), (9, 137, 80, 1), (9, 141, 78, 1), (9, 148, 40, 1), (9, 156, 36, 1), (9, 160, 74, 1), (9, 170, 86, 1), (9, 174, 87, 1), (9, 177, 88, 1), (9, 180, 89, 1), (9, 186, 90, 1), (9, 189, 91, 1), (9, 192, 25, 1), (9, 198, 30, 1), (9, 213, 76, 1), (9, 216, 39, 1), (9, 219, 38, 1), (9, 222, 92, 1), (9, 226, 7, 1), (9, 229, 11, 1), (9, 232, 37, 1), (10, 25, 95, 1), (10, 33, 21, 1), (10, 37, 19, 1), (10, 40, 20, 1), (10, 43, 18, 1), (10, 47, 96, 1), (10, 59, 99, 1), (10, 65, 97, 1), (10, 101, 23, 1), (11, 18, 58, 2), (11, 41, 51, 2), (11, 51, 70, 2), (11, 70, 13, 2), (11, 91, 54, 1), (11, 95, 55, 1), (11, 99, 71, 1), (11, 105, 17, 1), (11, 109, 59, 1), (11, 141, 41, 1), (11, 173, 154, 1), (11, 194, 73, 1), (11, 201, 42, 1), (11, 221, 155, 1), (11, 233, 45, 0), (11, 239, 74, 1), (11, 242, 76, 1), (11, 246, 39, 1), (11, 259, 158, 1), (11, 262, 77, 1), (11, 285, 25, 1), (11, 305, 156, 1), (11, 308, 159, 1), (11, 324, 44, 0), (11, 339, 157, 1), (11, 343, 14, 1), (11, 347, 85, 1), (11, 359, 81, 1), (11, 371, 50, 0), (11, 377, 82, 1), (11, 388, 6, 1), (11, 395, 15, 1), (11, 398, 72, 1), (11, 401, 86, 1), (11, 405, 38, 1), (11, 408, 75, 1), (11, 437, 30, 1), (12, 1, 201, 2), (12, 137, 219, 2), (13, 8, 180, 0), (13, 15, 227, 1), (13, 21, 230, 1), (13, 25, 104, 1), (13, 31, 105, 1), (13, 35, 182, 0), (13, 38, 106, 1), (13, 51, 200, 2), (13, 54, 202, 1), (13, 58, 204, 1), (13, 61, 181, 0), (13, 65, 184, 0), (13, 73, 206, 1), (13, 94, 218, 1), (13, 98, 109, 1), (13, 102, 135, 1), (13, 106, 186, 0), (13, 110, 137, 1), (13, 113, 139, 1), (13, 116, 141, 1), (13, 120, 140, 1), (13, 123, 134, 1), (13, 126, 114, 1), (13, 129, 124, 1), (13, 132, 112, 1), (13, 135, 119, 1), (13, 138, 116, 1), (13, 141, 115, 1), (13, 144, 111, 1), (13, 147, 132, 1), (13, 150, 123, 1), (13, 153, 122, 1), (13, 156, 103, 2), (13, 157, 185, 0), (13, 161, 183, 0), (13, 165, 187, 0), (13, 169, 188, 0), (13, 173, 144, 1), (13, 176, 149, 1), (13, 179, 142, 1), (13, 182, 146, 1), (13, 185, 117, 1), (13, 188, 152, 1), (13, 191, 153, 1), (14, 54, 224, 0), (14, 335, 228, 1), (14, 489, 220, 2), (14, 492, 229, 1), (14, 495, 231, 0), (15, 9, 232, 0), (16, 108, 211, 0), (16, 114, 210, 0), (16, 191, 213, 0), (16, 245, 216, 0), (16, 248, 217, 0), (18, 339, 225, 0), (18, 343, 226, 0)]
def mkM (e : Nat × Nat × Nat × Nat) : Cond := .methodLink (RN e.1) e.2.1 (nmy e.2.2.1)
def MLd_0 : List (Nat × Nat × Nat × Nat) := [(2, 24, 70, 2), (2, 27, 72, 1), (3, 19, 18, 1), (4, 42, 26, 1), (4, 49, 73, 1), (4, 59, 27, 1), (4, 63, 28, 1), (4, 67, 31, 1), (4, 71, 32, 1), (5, 29, 40, 1), (7, 48, 53, 1), (7, 51, 34, 1), (8, 11, 51, 2), (8, 30, 93, 2), (8, 37, 52, 1), (8, 40, 94, 1), (8, 46, 62, 1), (8, 50, 61, 1), (8, 59, 60, 1), (8, 66, 95, 1), (8, 71, 97, 1), (8, 75, 63, 1), (8, 80, 65, 1), (8, 85, 66, 1), (8, 90, 67, 1), (8, 95, 68, 1), (8, 107, 98, 1), (8, 110, 100, 1), (8, 114, 56, 1), (8, 118, 64, 1), (8, 122, 54, 1), (8, 132, 57, 1), (8, 137, 69, 1), (8, 143, 55, 1), (8, 156, 36, 1), (8, 172, 101, 1), (8, 175, 102, 1), (9, 88, 43, 0), (9, 98, 1, 1), (9, 101, 35, 1), (9, 105, 9, 1), (9, 108, 44, 0), (9, 118, 2, 1), (9, 121, 10, 1), (9, 133, 79, 1), (9, 137, 80, 1), (9, 141, 78, 1), (9, 148, 40, 1), (9, 156, 36, 1), (9, 160, 74, 1)]
set_option maxRecDepth 100000 in
theorem MLd_in0 : ∀ e ∈ MLd_0, mkM e ∈ TT := in_map _ _ (in_by _ [358, 608, 894, 651, 655, 656, 660, 668, 672, 571, 128, 878, 96, 184, 874, 882, 907, 1027, 926, 930, 912, 922, 978, 1002, 1011, 1019, 931, 957, 965, 969, 976, 982, 987, 1000, 1006, 991, 995, 412, 415, 419, 426, 612, 620, 625, 693, 698, 1362, 697, 1293, 685] (by decide +kernel) (by decide +kernel))
def MLd_1 : List (Nat × Nat × Nat × Nat) := [(9, 170, 86, 1), (9, 174, 87, 1), (9, 177, 88, 1), (9, 180, 89, 1), (9, 186, 90, 1), (9, 189, 91, 1), (9, 192, 25, 1), (9, 198, 30, 1), (9, 213, 76, 1), (9, 216, 39, 1), (9, 219, 38, 1), (9, 222, 92, 1), (9, 226, 7, 1), (9, 229, 11, 1), (9, 232, 37, 1), (10, 25, 95, 1), (10, 33, 21, 1), (10, 37, 19, 1), (10, 40, 20, 1), (10, 43, 18, 1), (10, 47, 96, 1), (10, 59, 99, 1), (10, 65, 97, 1), (10, 101, 23, 1), (11, 18, 58, 2), (11, 41, 51, 2), (11, 51, 70, 2), (11, 70, 13, 2), (11, 91, 54, 1), (11, 95, 55, 1), (11, 99, 71, 1), (11, 105, 17, 1), (11, 109, 59, 1), (11, 141, 41, 1), (11, 173, 154, 1), (11, 194, 73, 1), (11, 201, 42, 1), (11, 221, 155, 1), (11, 233, 45, 0), (11, 239, 74, 1), (11, 242, 76, 1), (11, 246, 39, 1), (11, 259, 158, 1), (11, 262, 77, 1), (11, 285, 25, 1), (11, 305, 156, 1), (11, 308, 159, 1), (11, 324, 44, 0), (11, 339, 157, 1), (11, 343, 14, 1)]
set_option maxRecDepth 100000 in
theorem MLd_in1 : ∀ e ∈ MLd_1, mkM e ∈ TT := in_map _ _ (in_by _ [635, 639, 643, 676, 681, 706, 647, 664, 689, 702, 710, 714, 718, 723, 728, 886, 890, 898, 902, 906, 916, 935, 940, 961, 90, 222, 225, 352, 400, 404, 408, 858, 870, 483, 491, 563, 567, 1282, 1344, 1347, 1348, 1349, 1386, 1358, 1337, 736, 1333, 1338, 584, 604] (by decide +kernel) (by decide +kernel))
def MLd_2 : List (Nat × Nat × Nat × Nat) := [(11, 347, 85, 1), (11, 359, 81, 1), (11, 371, 50, 0), (11, 377, 82, 1), (11, 388, 6, 1), (11, 395, 15, 1), (11, 398, 72, 1), (11, 401, 86, 1), (11, 405, 38, 1), (11, 408, 75, 1), (11, 437, 30, 1), (12, 1, 201, 2), (12, 137, 219, 2), (13, 8, 180, 0), (13, 15, 227, 1), (13, 21, 230, 1), (13, 25, 104, 1), (13, 31, 105, 1), (13, 35, 182, 0), (13, 38, 106, 1), (13, 51, 200, 2), (13, 54, 202, 1), (13, 58, 204, 1), (13, 61, 181, 0), (13, 65, 184, 0), (13, 73, 206, 1), (13, 94, 218, 1), (13, 98, 109, 1), (13, 102, 135, 1), (13, 106, 186, 0), (13, 110, 137, 1), (13, 113, 139, 1), (13, 116, 141, 1), (13, 120, 140, 1), (13, 123, 134, 1), (13, 126, 114, 1), (13, 129, 124, 1), (13, 132, 112, 1), (13, 135, 119, 1), (13, 138, 116, 1), (13, 141, 115, 1), (13, 144, 111, 1), (13, 147, 132, 1), (13, 150, 123, 1), (13, 153, 122, 1), (13, 156, 103, 2), (13, 157, 185, 0), (13, 161, 183, 0), (13, 165, 187, 0), (13, 169, 188, 0)]
set_option maxRecDepth 100000 in
theorem MLd_in2 : ∀ e ∈ MLd_2, mkM e ∈ TT := in_map _ _ (in_by _ [631, 1289, 1301, 1305, 1313, 761, 769, 782, 1390, 770, 1339, 1039, 1224, 795, 806, 816, 854, 862, 803, 866, 1036, 1065, 1162, 792, 1175, 1184, 1218, 479, 1278, 1294, 1297, 1309, 1317, 732, 580, 1325, 1329, 1340, 1350, 1354, 1382, 487, 1392, 1396, 1400, 66, 1031, 800, 1275, 1322] (by decide +kernel) (by decide +kernel))
def MLd_3 : List (Nat × Nat × Nat × Nat) := [(13, 173, 144, 1), (13, 176, 149, 1), (13, 179, 142, 1), (13, 182, 146, 1), (13, 185, 117, 1), (13, 188, 152, 1), (13, 191, 153, 1), (14, 54, 224, 0), (14, 335, 228, 1), (14, 489, 220, 2), (14, 492, 229, 1), (14, 495, 231, 0), (15, 9, 232, 0), (16, 108, 211, 0), (16, 114, 210, 0), (16, 191, 213, 0), (16, 245, 216, 0), (16, 248, 217, 0), (18, 339, 225, 0), (18, 343, 226, 0)]
set_option maxRecDepth 100000 in
theorem MLd_in3 : ∀ e ∈ MLd_3, mkM e ∈ TT := in_map _ _ (in_by _ [765, 778, 741, 774, 576, 783, 787, 1245, 810, 1227, 820, 824, 827, 1095, 1084, 1169, 1191, 1194, 1248, 1251] (by decide +kernel) (by decide +kernel))
set_option maxRecDepth 100000 in
theorem MLd_ap : MLd = MLd_0 ++ (MLd_1 ++ (MLd_2 ++ (MLd_3))) := by rfl
theorem MLd_in : ∀ e ∈ MLd, mkM e ∈ TT := fun e h => by
  rw [MLd_ap] at h
  exact (List.mem_append.mp h).elim (fun h => MLd_in0 e h) (fun h => (List.mem_append.mp h).elim (fun h => MLd_in1 e h) (fun h => (List.mem_append.mp h).elim (fun h => MLd_in2 e h) (fun h => MLd_in3 e h)))
def MNd : List (Nat × Nat × Nat) := [(7, 43, 33), (9, 58, 0), (9, 65, 33), (9, 72, 8), (11, 9, 16), (11, 77, 24)]
def mkN (e : Nat × Nat × Nat) : Cond := .methodLinkNest (RN e.1) e.2.1 (nmy e.2.2) "BallotBus"
set_option maxRecDepth 100000 in
theorem MNd_in : ∀ e ∈ MNd, mkN e ∈ lw_tbl := by
  have h : MNd.map mkN = ([102, 232, 266, 269, 74, 372] : List Nat).filterMap (fun i => lw_tbl[i]?) := by decide +kernel
  intro e he
  have h1 := List.mem_map_of_mem (f := mkN) he
  rw [h] at h1
  obtain ⟨i, -, hi⟩ := List.mem_filterMap.mp h1
  exact List.mem_of_getElem? hi
def CDd : List Nat := [0, 1, 2, 3, 4, 5, 6, 7, 8, 9, 10, 11, 12, 13, 14, 15, 16, 17, 18, 19, 20, 21, 22, 23, 24, 25, 26, 27, 28, 29, 30, 31, 32, 33, 34, 35, 36, 37, 38, 39, 40, 41, 42, 43, 44, 45, 46, 47, 48, 49, 50, 51, 52, 53, 54, 55, 56, 57, 58, 59, 60, 61, 62, 63, 64, 65, 66, 67, 68, 69, 70, 71, 72, 73, 74, 75, 76, 77, 78, 79, 80, 81, 82, 83, 84, 85, 86, 87, 88, 89, 90, 91, 92, 93, 94, 95, 96, 97, 98, 99, 100, 101, 102, 103, 104, 105, 106, 107, 108, 109, 110, 111, 112, 113, 114, 115, 116, 117, 118, 119, 120, 121, 122, 123, 124, 125, 126, 127, 128, 129, 130, 131, 132, 133, 134, 135, 136, 137, 138, 139, 140, 141, 142, 143, 144, 145, 146, 147, 148, 149, 150, 151, 152, 153, 154, 155, 156, 157, 158, 159, 160, 161, 162, 163, 164, 165, 166, 167, 168, 169, 170, 171, 172, 173, 174, 175, 176, 177, 178, 179, 180, 181, 182, 183, 184, 185, 186, 187, 188, 189, 190, 191, 192, 193, 194, 195, 196, 197, 198, 199, 200, 201, 202, 203, 204, 205, 206, 207, 208, 209, 210, 211, 212, 213, 214, 215, 216, 217, 218, 219, 220, 221, 222, 223, 224, 225, 226, 227, 228, 229, 230, 231, 232, 233, 234, 235, 236, 237, 238, 239, 240, 241, 242, 243, 244, 245, 246, 247, 248, 249, 250, 251, 252, 253, 254, 255, 256, 257, 258, 259, 260, 261, 262, 263, 264, 265, 266, 267, 268, 269, 270, 271, 272, 273, 274, 275, 276, 277, 278, 279, 280, 281, 282, 283, 284, 285, 286, 287, 288, 289, 290, 291, 292, 293, 294, 295, 296, 297, 298, 299]
theorem CDd_0 : hdw 0 ∈ TT := TT_in (tp1 (List.mem_of_getElem? (i := 202) rfl)) rfl
theorem CDd_1 : hdw 1 ∈ TT := TT_in (tp2 (List.mem_of_getElem? (i := 146) rfl)) rfl
theorem CDd_2 : hdw 2 ∈ TT := TT_in (tp3 (List.mem_of_getElem? (i := 111) rfl)) rfl
theorem CDd_3 : hdw 3 ∈ TT := TT_in (tp1 (List.mem_of_getElem? (i := 202) rfl)) rfl
theorem CDd_4 : hdw 4 ∈ TT := TT_in (tp1 (List.mem_of_getElem? (i := 202) rfl)) rfl
theorem CDd_5 : hdw 5 ∈ TT := TT_in (tp1 (List.mem_of_getElem? (i := 202) rfl)) rfl
theorem CDd_6 : hdw 6 ∈ TT := TT_in (tp6 (List.mem_of_getElem? (i := 84) rfl)) rfl
theorem CDd_7 : hdw 7 ∈ TT := TT_in (tp3 (List.mem_of_getElem? (i := 209) rfl)) rfl
theorem CDd_8 : hdw 8 ∈ TT := TT_in (tp1 (List.mem_of_getElem? (i := 239) rfl)) rfl
theorem CDd_9 : hdw 9 ∈ TT := TT_in (tp2 (List.mem_of_getElem? (i := 157) rfl)) rfl
theorem CDd_10 : hdw 10 ∈ TT := TT_in (tp3 (List.mem_of_getElem? (i := 116) rfl)) rfl
theorem CDd_11 : hdw 11 ∈ TT := TT_in (tp3 (List.mem_of_getElem? (i := 214) rfl)) rfl
theorem CDd_12 : hdw 12 ∈ TT := TT_in (tp1 (List.mem_of_getElem? (i := 202) rfl)) rfl
theorem CDd_13 : hdw 13 ∈ TT := TT_in (tp2 (List.mem_of_getElem? (i := 82) rfl)) rfl
theorem CDd_14 : hdw 14 ∈ TT := TT_in (tp3 (List.mem_of_getElem? (i := 95) rfl)) rfl
theorem CDd_15 : hdw 15 ∈ TT := TT_in (tp4 (List.mem_of_getElem? (i := 12) rfl)) rfl
theorem CDd_16 : hdw 16 ∈ TT := TT_in (tp1 (List.mem_of_getElem? (i := 44) rfl)) rfl
theorem CDd_17 : hdw 17 ∈ TT := TT_in (tp4 (List.mem_of_getElem? (i := 109) rfl)) rfl
theorem CDd_18 : hdw 18 ∈ TT := TT_in (tp4 (List.mem_of_getElem? (i := 145) rfl)) rfl
theorem CDd_19 : hdw 19 ∈ TT := TT_in (tp4 (List.mem_of_getElem? (i := 149) rfl)) rfl
theorem CDd_20 : hdw 20 ∈ TT := TT_in (tp4 (List.mem_of_getElem? (i := 153) rfl)) rfl
theorem CDd_21 : hdw 21 ∈ TT := TT_in (tp4 (List.mem_of_getElem? (i := 141) rfl)) rfl
theorem CDd_22 : hdw 22 ∈ TT := TT_in (tp1 (List.mem_of_getElem? (i := 202) rfl)) rfl
theorem CDd_23 : hdw 23 ∈ TT := TT_in (tp4 (List.mem_of_getElem? (i := 212) rfl)) rfl
theorem CDd_24 : hdw 24 ∈ TT := TT_in (tp2 (List.mem_of_getElem? (i := 102) rfl)) rfl
theorem CDd_25 : hdw 25 ∈ TT := TT_in (tp3 (List.mem_of_getElem? (i := 138) rfl)) rfl
theorem CDd_26 : hdw 26 ∈ TT := TT_in (tp3 (List.mem_of_getElem? (i := 142) rfl)) rfl
theorem CDd_27 : hdw 27 ∈ TT := TT_in (tp3 (List.mem_of_getElem? (i := 147) rfl)) rfl
theorem CDd_28 : hdw 28 ∈ TT := TT_in (tp3 (List.mem_of_getElem? (i := 151) rfl)) rfl
theorem CDd_29 : hdw 29 ∈ TT := TT_in (tp1 (List.mem_of_getElem? (i := 202) rfl)) rfl
theorem CDd_30 : hdw 30 ∈ TT := TT_in (tp3 (List.mem_of_getElem? (i := 155) rfl)) rfl
theorem CDd_31 : hdw 31 ∈ TT := TT_in (tp3 (List.mem_of_getElem? (i := 159) rfl)) rfl
theorem CDd_32 : hdw 32 ∈ TT := TT_in (tp3 (List.mem_of_getElem? (i := 163) rfl)) rfl
theorem CDd_33 : hdw 33 ∈ TT := TT_in (tp1 (List.mem_of_getElem? (i := 72) rfl)) rfl
theorem CDd_34 : hdw 34 ∈ TT := TT_in (tp4 (List.mem_of_getElem? (i := 129) rfl)) rfl
theorem CDd_35 : hdw 35 ∈ TT := TT_in (tp2 (List.mem_of_getElem? (i := 150) rfl)) rfl
theorem CDd_36 : hdw 36 ∈ TT := TT_in (tp5 (List.mem_of_getElem? (i := 17) rfl)) rfl
theorem CDd_37 : hdw 37 ∈ TT := TT_in (tp3 (List.mem_of_getElem? (i := 219) rfl)) rfl
theorem CDd_38 : hdw 38 ∈ TT := TT_in (tp3 (List.mem_of_getElem? (i := 201) rfl)) rfl
theorem CDd_39 : hdw 39 ∈ TT := TT_in (tp3 (List.mem_of_getElem? (i := 193) rfl)) rfl
theorem CDd_40 : hdw 40 ∈ TT := TT_in (tp3 (List.mem_of_getElem? (i := 62) rfl)) rfl
theorem CDd_41 : hdw 41 ∈ TT := TT_in (tp2 (List.mem_of_getElem? (i := 214) rfl)) rfl
theorem CDd_42 : hdw 42 ∈ TT := TT_in (tp3 (List.mem_of_getElem? (i := 58) rfl)) rfl
theorem CDd_43 : hdw 43 ∈ TT := TT_in (tp2 (List.mem_of_getElem? (i := 142) rfl)) rfl
theorem CDd_44 : hdw 44 ∈ TT := TT_in (tp3 (List.mem_of_getElem? (i := 102) rfl)) rfl
theorem CDd_45 : hdw 45 ∈ TT := TT_in (tp6 (List.mem_of_getElem? (i := 114) rfl)) rfl
theorem CDd_46 : hdw 46 ∈ TT := TT_in (tp1 (List.mem_of_getElem? (i := 202) rfl)) rfl
theorem CDd_47 : hdw 47 ∈ TT := TT_in (tp1 (List.mem_of_getElem? (i := 202) rfl)) rfl
theorem CDd_48 : hdw 48 ∈ TT := TT_in (tp1 (List.mem_of_getElem? (i := 202) rfl)) rfl
theorem CDd_49 : hdw 49 ∈ TT := TT_in (tp1 (List.mem_of_getElem? (i := 202) rfl)) rfl
theorem CDd_50 : hdw 50 ∈ TT := TT_in (tp6 (List.mem_of_getElem? (i := 71) rfl)) rfl
theorem CDd_51 : hdw 51 ∈ TT := TT_in (tp1 (List.mem_of_getElem? (i := 66) rfl)) rfl
theorem CDd_52 : hdw 52 ∈ TT := TT_in (tp4 (List.mem_of_getElem? (i := 125) rfl)) rfl
theorem CDd_53 : hdw 53 ∈ TT := TT_in (tp1 (List.mem_of_getElem? (i := 99) rfl)) rfl
theorem CDd_54 : hdw 54 ∈ TT := TT_in (tp2 (List.mem_of_getElem? (i := 131) rfl)) rfl
theorem CDd_55 : hdw 55 ∈ TT := TT_in (tp2 (List.mem_of_getElem? (i := 135) rfl)) rfl
theorem CDd_56 : hdw 56 ∈ TT := TT_in (tp4 (List.mem_of_getElem? (i := 216) rfl)) rfl
theorem CDd_57 : hdw 57 ∈ TT := TT_in (tp4 (List.mem_of_getElem? (i := 233) rfl)) rfl
theorem CDd_58 : hdw 58 ∈ TT := TT_in (tp1 (List.mem_of_getElem? (i := 60) rfl)) rfl
theorem CDd_59 : hdw 59 ∈ TT := TT_in (tp4 (List.mem_of_getElem? (i := 121) rfl)) rfl
theorem CDd_60 : hdw 60 ∈ TT := TT_in (tp4 (List.mem_of_getElem? (i := 177) rfl)) rfl
theorem CDd_61 : hdw 61 ∈ TT := TT_in (tp5 (List.mem_of_getElem? (i := 38) rfl)) rfl
theorem CDd_62 : hdw 62 ∈ TT := TT_in (tp4 (List.mem_of_getElem? (i := 158) rfl)) rfl
theorem CDd_63 : hdw 63 ∈ TT := TT_in (tp4 (List.mem_of_getElem? (i := 173) rfl)) rfl
theorem CDd_64 : hdw 64 ∈ TT := TT_in (tp4 (List.mem_of_getElem? (i := 220) rfl)) rfl
theorem CDd_65 : hdw 65 ∈ TT := TT_in (tp4 (List.mem_of_getElem? (i := 229) rfl)) rfl
theorem CDd_66 : hdw 66 ∈ TT := TT_in (tp5 (List.mem_of_getElem? (i := 13) rfl)) rfl
theorem CDd_67 : hdw 67 ∈ TT := TT_in (tp5 (List.mem_of_getElem? (i := 22) rfl)) rfl
theorem CDd_68 : hdw 68 ∈ TT := TT_in (tp5 (List.mem_of_getElem? (i := 30) rfl)) rfl
theorem CDd_69 : hdw 69 ∈ TT := TT_in (tp4 (List.mem_of_getElem? (i := 238) rfl)) rfl
theorem CDd_70 : hdw 70 ∈ TT := TT_in (tp1 (List.mem_of_getElem? (i := 195) rfl)) rfl
theorem CDd_71 : hdw 71 ∈ TT := TT_in (tp2 (List.mem_of_getElem? (i := 139) rfl)) rfl
theorem CDd_72 : hdw 72 ∈ TT := TT_in (tp3 (List.mem_of_getElem? (i := 99) rfl)) rfl
theorem CDd_73 : hdw 73 ∈ TT := TT_in (tp3 (List.mem_of_getElem? (i := 54) rfl)) rfl
theorem CDd_74 : hdw 74 ∈ TT := TT_in (tp3 (List.mem_of_getElem? (i := 176) rfl)) rfl
theorem CDd_75 : hdw 75 ∈ TT := TT_in (tp4 (List.mem_of_getElem? (i := 21) rfl)) rfl
theorem CDd_76 : hdw 76 ∈ TT := TT_in (tp3 (List.mem_of_getElem? (i := 180) rfl)) rfl
theorem CDd_77 : hdw 77 ∈ TT := TT_in (tp6 (List.mem_of_getElem? (i := 129) rfl)) rfl
theorem CDd_78 : hdw 78 ∈ TT := TT_in (tp6 (List.mem_of_getElem? (i := 133) rfl)) rfl
theorem CDd_79 : hdw 79 ∈ TT := TT_in (tp3 (List.mem_of_getElem? (i := 184) rfl)) rfl
theorem CDd_80 : hdw 80 ∈ TT := TT_in (tp3 (List.mem_of_getElem? (i := 189) rfl)) rfl
theorem CDd_81 : hdw 81 ∈ TT := TT_in (tp6 (List.mem_of_getElem? (i := 60) rfl)) rfl
theorem CDd_82 : hdw 82 ∈ TT := TT_in (tp6 (List.mem_of_getElem? (i := 76) rfl)) rfl
theorem CDd_83 : hdw 83 ∈ TT := TT_in (tp1 (List.mem_of_getElem? (i := 202) rfl)) rfl
theorem CDd_84 : hdw 84 ∈ TT := TT_in (tp1 (List.mem_of_getElem? (i := 202) rfl)) rfl
theorem CDd_85 : hdw 85 ∈ TT := TT_in (tp3 (List.mem_of_getElem? (i := 122) rfl)) rfl
theorem CDd_86 : hdw 86 ∈ TT := TT_in (tp3 (List.mem_of_getElem? (i := 126) rfl)) rfl
theorem CDd_87 : hdw 87 ∈ TT := TT_in (tp3 (List.mem_of_getElem? (i := 130) rfl)) rfl
theorem CDd_88 : hdw 88 ∈ TT := TT_in (tp3 (List.mem_of_getElem? (i := 134) rfl)) rfl
theorem CDd_89 : hdw 89 ∈ TT := TT_in (tp3 (List.mem_of_getElem? (i := 167) rfl)) rfl
theorem CDd_90 : hdw 90 ∈ TT := TT_in (tp3 (List.mem_of_getElem? (i := 172) rfl)) rfl
theorem CDd_91 : hdw 91 ∈ TT := TT_in (tp3 (List.mem_of_getElem? (i := 197) rfl)) rfl
theorem CDd_92 : hdw 92 ∈ TT := TT_in (tp3 (List.mem_of_getElem? (i := 205) rfl)) rfl
theorem CDd_93 : hdw 93 ∈ TT := TT_in (tp1 (List.mem_of_getElem? (i := 154) rfl)) rfl
theorem CDd_94 : hdw 94 ∈ TT := TT_in (tp4 (List.mem_of_getElem? (i := 133) rfl)) rfl
theorem CDd_95 : hdw 95 ∈ TT := TT_in (tp4 (List.mem_of_getElem? (i := 137) rfl)) rfl
theorem CDd_96 : hdw 96 ∈ TT := TT_in (tp4 (List.mem_of_getElem? (i := 167) rfl)) rfl
theorem CDd_97 : hdw 97 ∈ TT := TT_in (tp4 (List.mem_of_getElem? (i := 163) rfl)) rfl
theorem CDd_98 : hdw 98 ∈ TT := TT_in (tp4 (List.mem_of_getElem? (i := 182) rfl)) rfl
theorem CDd_99 : hdw 99 ∈ TT := TT_in (tp4 (List.mem_of_getElem? (i := 186) rfl)) rfl
theorem CDd_100 : hdw 100 ∈ TT := TT_in (tp4 (List.mem_of_getElem? (i := 208) rfl)) rfl
theorem CDd_101 : hdw 101 ∈ TT := TT_in (tp5 (List.mem_of_getElem? (i := 2) rfl)) rfl
theorem CDd_102 : hdw 102 ∈ TT := TT_in (tp5 (List.mem_of_getElem? (i := 6) rfl)) rfl
theorem CDd_103 : hdw 103 ∈ TT := TT_in (tp1 (List.mem_of_getElem? (i := 36) rfl)) rfl
theorem CDd_104 : hdw 104 ∈ TT := TT_in (tp4 (List.mem_of_getElem? (i := 105) rfl)) rfl
theorem CDd_105 : hdw 105 ∈ TT := TT_in (tp4 (List.mem_of_getElem? (i := 113) rfl)) rfl
theorem CDd_106 : hdw 106 ∈ TT := TT_in (tp4 (List.mem_of_getElem? (i := 117) rfl)) rfl
theorem CDd_107 : hdw 107 ∈ TT := TT_in (tp1 (List.mem_of_getElem? (i := 202) rfl)) rfl
theorem CDd_108 : hdw 108 ∈ TT := TT_in (tp1 (List.mem_of_getElem? (i := 202) rfl)) rfl
theorem CDd_109 : hdw 109 ∈ TT := TT_in (tp2 (List.mem_of_getElem? (i := 210) rfl)) rfl
theorem CDd_110 : hdw 110 ∈ TT := TT_in (tp1 (List.mem_of_getElem? (i := 202) rfl)) rfl
theorem CDd_111 : hdw 111 ∈ TT := TT_in (tp2 (List.mem_of_getElem? (i := 218) rfl)) rfl
theorem CDd_112 : hdw 112 ∈ TT := TT_in (tp6 (List.mem_of_getElem? (i := 111) rfl)) rfl
theorem CDd_113 : hdw 113 ∈ TT := TT_in (tp1 (List.mem_of_getElem? (i := 202) rfl)) rfl
theorem CDd_114 : hdw 114 ∈ TT := TT_in (tp6 (List.mem_of_getElem? (i := 96) rfl)) rfl
theorem CDd_115 : hdw 115 ∈ TT := TT_in (tp6 (List.mem_of_getElem? (i := 153) rfl)) rfl
theorem CDd_116 : hdw 116 ∈ TT := TT_in (tp6 (List.mem_of_getElem? (i := 125) rfl)) rfl
theorem CDd_117 : hdw 117 ∈ TT := TT_in (tp3 (List.mem_of_getElem? (i := 67) rfl)) rfl
theorem CDd_118 : hdw 118 ∈ TT := TT_in (tp1 (List.mem_of_getElem? (i := 202) rfl)) rfl
theorem CDd_119 : hdw 119 ∈ TT := TT_in (tp6 (List.mem_of_getElem? (i := 121) rfl)) rfl
theorem CDd_120 : hdw 120 ∈ TT := TT_in (tp1 (List.mem_of_getElem? (i := 202) rfl)) rfl
theorem CDd_121 : hdw 121 ∈ TT := TT_in (tp1 (List.mem_of_getElem? (i := 202) rfl)) rfl
theorem CDd_122 : hdw 122 ∈ TT := TT_in (tp6 (List.mem_of_getElem? (i := 171) rfl)) rfl
theorem CDd_123 : hdw 123 ∈ TT := TT_in (tp6 (List.mem_of_getElem? (i := 167) rfl)) rfl
theorem CDd_124 : hdw 124 ∈ TT := TT_in (tp6 (List.mem_of_getElem? (i := 100) rfl)) rfl
theorem CDd_125 : hdw 125 ∈ TT := TT_in (tp1 (List.mem_of_getElem? (i := 202) rfl)) rfl
theorem CDd_126 : hdw 126 ∈ TT := TT_in (tp1 (List.mem_of_getElem? (i := 202) rfl)) rfl
theorem CDd_127 : hdw 127 ∈ TT := TT_in (tp1 (List.mem_of_getElem? (i := 202) rfl)) rfl
theorem CDd_128 : hdw 128 ∈ TT := TT_in (tp1 (List.mem_of_getElem? (i := 202) rfl)) rfl
theorem CDd_129 : hdw 129 ∈ TT := TT_in (tp1 (List.mem_of_getElem? (i := 202) rfl)) rfl
theorem CDd_130 : hdw 130 ∈ TT := TT_in (tp1 (List.mem_of_getElem? (i := 202) rfl)) rfl
theorem CDd_131 : hdw 131 ∈ TT := TT_in (tp1 (List.mem_of_getElem? (i := 202) rfl)) rfl
theorem CDd_132 : hdw 132 ∈ TT := TT_in (tp6 (List.mem_of_getElem? (i := 163) rfl)) rfl
theorem CDd_133 : hdw 133 ∈ TT := TT_in (tp1 (List.mem_of_getElem? (i := 202) rfl)) rfl
theorem CDd_134 : hdw 134 ∈ TT := TT_in (tp3 (List.mem_of_getElem? (i := 71) rfl)) rfl
theorem CDd_135 : hdw 135 ∈ TT := TT_in (tp6 (List.mem_of_getElem? (i := 49) rfl)) rfl
theorem CDd_136 : hdw 136 ∈ TT := TT_in (tp1 (List.mem_of_getElem? (i := 202) rfl)) rfl
theorem CDd_137 : hdw 137 ∈ TT := TT_in (tp6 (List.mem_of_getElem? (i := 68) rfl)) rfl
theorem CDd_138 : hdw 138 ∈ TT := TT_in (tp1 (List.mem_of_getElem? (i := 202) rfl)) rfl
theorem CDd_139 : hdw 139 ∈ TT := TT_in (tp6 (List.mem_of_getElem? (i := 80) rfl)) rfl
theorem CDd_140 : hdw 140 ∈ TT := TT_in (tp3 (List.mem_of_getElem? (i := 223) rfl)) rfl
theorem CDd_141 : hdw 141 ∈ TT := TT_in (tp6 (List.mem_of_getElem? (i := 88) rfl)) rfl
theorem CDd_142 : hdw 142 ∈ TT := TT_in (tp3 (List.mem_of_getElem? (i := 232) rfl)) rfl
theorem CDd_143 : hdw 143 ∈ TT := TT_in (tp1 (List.mem_of_getElem? (i := 202) rfl)) rfl
theorem CDd_144 : hdw 144 ∈ TT := TT_in (tp4 (List.mem_of_getElem? (i := 16) rfl)) rfl
theorem CDd_145 : hdw 145 ∈ TT := TT_in (tp1 (List.mem_of_getElem? (i := 202) rfl)) rfl
theorem CDd_146 : hdw 146 ∈ TT := TT_in (tp4 (List.mem_of_getElem? (i := 25) rfl)) rfl
theorem CDd_147 : hdw 147 ∈ TT := TT_in (tp1 (List.mem_of_getElem? (i := 202) rfl)) rfl
theorem CDd_148 : hdw 148 ∈ TT := TT_in (tp1 (List.mem_of_getElem? (i := 202) rfl)) rfl
theorem CDd_149 : hdw 149 ∈ TT := TT_in (tp4 (List.mem_of_getElem? (i := 29) rfl)) rfl
theorem CDd_150 : hdw 150 ∈ TT := TT_in (tp1 (List.mem_of_getElem? (i := 202) rfl)) rfl
theorem CDd_151 : hdw 151 ∈ TT := TT_in (tp1 (List.mem_of_getElem? (i := 202) rfl)) rfl
theorem CDd_152 : hdw 152 ∈ TT := TT_in (tp4 (List.mem_of_getElem? (i := 34) rfl)) rfl
theorem CDd_153 : hdw 153 ∈ TT := TT_in (tp4 (List.mem_of_getElem? (i := 38) rfl)) rfl
theorem CDd_154 : hdw 154 ∈ TT := TT_in (tp2 (List.mem_of_getElem? (i := 222) rfl)) rfl
theorem CDd_155 : hdw 155 ∈ TT := TT_in (tp6 (List.mem_of_getElem? (i := 53) rfl)) rfl
theorem CDd_156 : hdw 156 ∈ TT := TT_in (tp3 (List.mem_of_getElem? (i := 227) rfl)) rfl
theorem CDd_157 : hdw 157 ∈ TT := TT_in (tp3 (List.mem_of_getElem? (i := 75) rfl)) rfl
theorem CDd_158 : hdw 158 ∈ TT := TT_in (tp6 (List.mem_of_getElem? (i := 157) rfl)) rfl
theorem CDd_159 : hdw 159 ∈ TT := TT_in (tp6 (List.mem_of_getElem? (i := 104) rfl)) rfl
theorem CDd_160 : hdw 160 ∈ TT := TT_in (tp1 (List.mem_of_getElem? (i := 202) rfl)) rfl
theorem CDd_161 : hdw 161 ∈ TT := TT_in (tp1 (List.mem_of_getElem? (i := 202) rfl)) rfl
theorem CDd_162 : hdw 162 ∈ TT := TT_in (tp1 (List.mem_of_getElem? (i := 202) rfl)) rfl
theorem CDd_163 : hdw 163 ∈ TT := TT_in (tp1 (List.mem_of_getElem? (i := 202) rfl)) rfl
theorem CDd_164 : hdw 164 ∈ TT := TT_in (tp1 (List.mem_of_getElem? (i := 202) rfl)) rfl
theorem CDd_165 : hdw 165 ∈ TT := TT_in (tp1 (List.mem_of_getElem? (i := 202) rfl)) rfl
theorem CDd_166 : hdw 166 ∈ TT := TT_in (tp1 (List.mem_of_getElem? (i := 202) rfl)) rfl
theorem CDd_167 : hdw 167 ∈ TT := TT_in (tp1 (List.mem_of_getElem? (i := 202) rfl)) rfl
theorem CDd_168 : hdw 168 ∈ TT := TT_in (tp1 (List.mem_of_getElem? (i := 202) rfl)) rfl
theorem CDd_169 : hdw 169 ∈ TT := TT_in (tp1 (List.mem_of_getElem? (i := 202) rfl)) rfl
theorem CDd_170 : hdw 170 ∈ TT := TT_in (tp1 (List.mem_of_getElem? (i := 202) rfl)) rfl
theorem CDd_171 : hdw 171 ∈ TT := TT_in (tp1 (List.mem_of_getElem? (i := 202) rfl)) rfl
theorem CDd_172 : hdw 172 ∈ TT := TT_in (tp1 (List.mem_of_getElem? (i := 202) rfl)) rfl
theorem CDd_173 : hdw 173 ∈ TT := TT_in (tp1 (List.mem_of_getElem? (i := 202) rfl)) rfl
theorem CDd_174 : hdw 174 ∈ TT := TT_in (tp1 (List.mem_of_getElem? (i := 202) rfl)) rfl
theorem CDd_175 : hdw 175 ∈ TT := TT_in (tp1 (List.mem_of_getElem? (i := 202) rfl)) rfl
theorem CDd_176 : hdw 176 ∈ TT := TT_in (tp1 (List.mem_of_getElem? (i := 202) rfl)) rfl
theorem CDd_177 : hdw 177 ∈ TT := TT_in (tp1 (List.mem_of_getElem? (i := 202) rfl)) rfl
theorem CDd_178 : hdw 178 ∈ TT := TT_in (tp1 (List.mem_of_getElem? (i := 202) rfl)) rfl
theorem CDd_179 : hdw 179 ∈ TT := TT_in (tp1 (List.mem_of_getElem? (i := 202) rfl)) rfl
theorem CDd_180 : hdw 180 ∈ TT := TT_in (tp4 (List.mem_of_getElem? (i := 45) rfl)) rfl
theorem CDd_181 : hdw 181 ∈ TT := TT_in (tp4 (List.mem_of_getElem? (i := 42) rfl)) rfl
theorem CDd_182 : hdw 182 ∈ TT := TT_in (tp4 (List.mem_of_getElem? (i := 53) rfl)) rfl
theorem CDd_183 : hdw 183 ∈ TT := TT_in (tp4 (List.mem_of_getElem? (i := 50) rfl)) rfl
theorem CDd_184 : hdw 184 ∈ TT := TT_in (tp5 (List.mem_of_getElem? (i := 185) rfl)) rfl
theorem CDd_185 : hdw 185 ∈ TT := TT_in (tp5 (List.mem_of_getElem? (i := 41) rfl)) rfl
theorem CDd_186 : hdw 186 ∈ TT := TT_in (tp6 (List.mem_of_getElem? (i := 64) rfl)) rfl
theorem CDd_187 : hdw 187 ∈ TT := TT_in (tp6 (List.mem_of_getElem? (i := 45) rfl)) rfl
theorem CDd_188 : hdw 188 ∈ TT := TT_in (tp6 (List.mem_of_getElem? (i := 92) rfl)) rfl
theorem CDd_189 : hdw 189 ∈ TT := TT_in (tp1 (List.mem_of_getElem? (i := 202) rfl)) rfl
theorem CDd_190 : hdw 190 ∈ TT := TT_in (tp1 (List.mem_of_getElem? (i := 202) rfl)) rfl
theorem CDd_191 : hdw 191 ∈ TT := TT_in (tp1 (List.mem_of_getElem? (i := 202) rfl)) rfl
theorem CDd_192 : hdw 192 ∈ TT := TT_in (tp1 (List.mem_of_getElem? (i := 202) rfl)) rfl
theorem CDd_193 : hdw 193 ∈ TT := TT_in (tp1 (List.mem_of_getElem? (i := 202) rfl)) rfl
theorem CDd_194 : hdw 194 ∈ TT := TT_in (tp1 (List.mem_of_getElem? (i := 202) rfl)) rfl
theorem CDd_195 : hdw 195 ∈ TT := TT_in (tp1 (List.mem_of_getElem? (i := 202) rfl)) rfl
theorem CDd_196 : hdw 196 ∈ TT := TT_in (tp1 (List.mem_of_getElem? (i := 202) rfl)) rfl
theorem CDd_197 : hdw 197 ∈ TT := TT_in (tp1 (List.mem_of_getElem? (i := 202) rfl)) rfl
theorem CDd_198 : hdw 198 ∈ TT := TT_in (tp1 (List.mem_of_getElem? (i := 202) rfl)) rfl
theorem CDd_199 : hdw 199 ∈ TT := TT_in (tp1 (List.mem_of_getElem? (i := 202) rfl)) rfl
theorem CDd_200 : hdw 200 ∈ TT := TT_in (tp5 (List.mem_of_getElem? (i := 46) rfl)) rfl
theorem CDd_201 : hdw 201 ∈ TT := TT_in (tp5 (List.mem_of_getElem? (i := 49) rfl)) rfl
theorem CDd_202 : hdw 202 ∈ TT := TT_in (tp5 (List.mem_of_getElem? (i := 76) rfl)) rfl
theorem CDd_203 : hdw 203 ∈ TT := TT_in (tp5 (List.mem_of_getElem? (i := 79) rfl)) rfl
theorem CDd_204 : hdw 204 ∈ TT := TT_in (tp5 (List.mem_of_getElem? (i := 173) rfl)) rfl
theorem CDd_205 : hdw 205 ∈ TT := TT_in (tp5 (List.mem_of_getElem? (i := 176) rfl)) rfl
theorem CDd_206 : hdw 206 ∈ TT := TT_in (tp5 (List.mem_of_getElem? (i := 195) rfl)) rfl
theorem CDd_207 : hdw 207 ∈ TT := TT_in (tp5 (List.mem_of_getElem? (i := 198) rfl)) rfl
theorem CDd_208 : hdw 208 ∈ TT := TT_in (tp5 (List.mem_of_getElem? (i := 87) rfl)) rfl
theorem CDd_209 : hdw 209 ∈ TT := TT_in (tp5 (List.mem_of_getElem? (i := 91) rfl)) rfl
theorem CDd_210 : hdw 210 ∈ TT := TT_in (tp5 (List.mem_of_getElem? (i := 94) rfl)) rfl
theorem CDd_211 : hdw 211 ∈ TT := TT_in (tp5 (List.mem_of_getElem? (i := 105) rfl)) rfl
theorem CDd_212 : hdw 212 ∈ TT := TT_in (tp5 (List.mem_of_getElem? (i := 119) rfl)) rfl
theorem CDd_213 : hdw 213 ∈ TT := TT_in (tp5 (List.mem_of_getElem? (i := 179) rfl)) rfl
theorem CDd_214 : hdw 214 ∈ TT := TT_in (tp5 (List.mem_of_getElem? (i := 139) rfl)) rfl
theorem CDd_215 : hdw 215 ∈ TT := TT_in (tp5 (List.mem_of_getElem? (i := 143) rfl)) rfl
theorem CDd_216 : hdw 216 ∈ TT := TT_in (tp5 (List.mem_of_getElem? (i := 201) rfl)) rfl
theorem CDd_217 : hdw 217 ∈ TT := TT_in (tp5 (List.mem_of_getElem? (i := 204) rfl)) rfl
theorem CDd_218 : hdw 218 ∈ TT := TT_in (tp5 (List.mem_of_getElem? (i := 229) rfl)) rfl
theorem CDd_219 : hdw 219 ∈ TT := TT_in (tp5 (List.mem_of_getElem? (i := 234) rfl)) rfl
theorem CDd_220 : hdw 220 ∈ TT := TT_in (tp5 (List.mem_of_getElem? (i := 237) rfl)) rfl
theorem CDd_221 : hdw 221 ∈ TT := TT_in (tp6 (List.mem_of_getElem? (i := 9) rfl)) rfl
theorem CDd_222 : hdw 222 ∈ TT := TT_in (tp6 (List.mem_of_getElem? (i := 11) rfl)) rfl
theorem CDd_223 : hdw 223 ∈ TT := TT_in (tp6 (List.mem_of_getElem? (i := 3) rfl)) rfl
theorem CDd_224 : hdw 224 ∈ TT := TT_in (tp6 (List.mem_of_getElem? (i := 15) rfl)) rfl
theorem CDd_225 : hdw 225 ∈ TT := TT_in (tp6 (List.mem_of_getElem? (i := 18) rfl)) rfl
theorem CDd_226 : hdw 226 ∈ TT := TT_in (tp6 (List.mem_of_getElem? (i := 21) rfl)) rfl
theorem CDd_227 : hdw 227 ∈ TT := TT_in (tp4 (List.mem_of_getElem? (i := 57) rfl)) rfl
theorem CDd_228 : hdw 228 ∈ TT := TT_in (tp4 (List.mem_of_getElem? (i := 61) rfl)) rfl
theorem CDd_229 : hdw 229 ∈ TT := TT_in (tp4 (List.mem_of_getElem? (i := 71) rfl)) rfl
theorem CDd_230 : hdw 230 ∈ TT := TT_in (tp4 (List.mem_of_getElem? (i := 67) rfl)) rfl
theorem CDd_231 : hdw 231 ∈ TT := TT_in (tp4 (List.mem_of_getElem? (i := 74) rfl)) rfl
theorem CDd_232 : hdw 232 ∈ TT := TT_in (tp4 (List.mem_of_getElem? (i := 77) rfl)) rfl
theorem CDd_233 : hdw 233 ∈ TT := TT_in (tp1 (List.mem_of_getElem? (i := 202) rfl)) rfl
theorem CDd_234 : hdw 234 ∈ TT := TT_in (tp5 (List.mem_of_getElem? (i := 167) rfl)) rfl
theorem CDd_235 : hdw 235 ∈ TT := TT_in (tp1 (List.mem_of_getElem? (i := 202) rfl)) rfl
theorem CDd_236 : hdw 236 ∈ TT := TT_in (tp1 (List.mem_of_getElem? (i := 202) rfl)) rfl
theorem CDd_237 : hdw 237 ∈ TT := TT_in (tp1 (List.mem_of_getElem? (i := 202) rfl)) rfl
theorem CDd_238 : hdw 238 ∈ TT := TT_in (tp1 (List.mem_of_getElem? (i := 202) rfl)) rfl
theorem CDd_239 : hdw 239 ∈ TT := TT_in (tp1 (List.mem_of_getElem? (i := 202) rfl)) rfl
theorem CDd_240 : hdw 240 ∈ TT := TT_in (tp1 (List.mem_of_getElem? (i := 202) rfl)) rfl
theorem CDd_241 : hdw 241 ∈ TT := TT_in (tp1 (List.mem_of_getElem? (i := 202) rfl)) rfl
theorem CDd_242 : hdw 242 ∈ TT := TT_in (tp1 (List.mem_of_getElem? (i := 202) rfl)) rfl
theorem CDd_243 : hdw 243 ∈ TT := TT_in (tp1 (List.mem_of_getElem? (i := 202) rfl)) rfl
theorem CDd_244 : hdw 244 ∈ TT := TT_in (tp1 (List.mem_of_getElem? (i := 202) rfl)) rfl
theorem CDd_245 : hdw 245 ∈ TT := TT_in (tp1 (List.mem_of_getElem? (i := 202) rfl)) rfl
theorem CDd_246 : hdw 246 ∈ TT := TT_in (tp1 (List.mem_of_getElem? (i := 202) rfl)) rfl
theorem CDd_247 : hdw 247 ∈ TT := TT_in (tp1 (List.mem_of_getElem? (i := 202) rfl)) rfl
theorem CDd_248 : hdw 248 ∈ TT := TT_in (tp1 (List.mem_of_getElem? (i := 202) rfl)) rfl
theorem CDd_249 : hdw 249 ∈ TT := TT_in (tp1 (List.mem_of_getElem? (i := 202) rfl)) rfl
theorem CDd_250 : hdw 250 ∈ TT := TT_in (tp1 (List.mem_of_getElem? (i := 202) rfl)) rfl
theorem CDd_251 : hdw 251 ∈ TT := TT_in (tp1 (List.mem_of_getElem? (i := 202) rfl)) rfl
theorem CDd_252 : hdw 252 ∈ TT := TT_in (tp1 (List.mem_of_getElem? (i := 202) rfl)) rfl
theorem CDd_253 : hdw 253 ∈ TT := TT_in (tp1 (List.mem_of_getElem? (i := 202) rfl)) rfl
theorem CDd_254 : hdw 254 ∈ TT := TT_in (tp1 (List.mem_of_getElem? (i := 202) rfl)) rfl
theorem CDd_255 : hdw 255 ∈ TT := TT_in (tp1 (List.mem_of_getElem? (i := 202) rfl)) rfl
theorem CDd_256 : hdw 256 ∈ TT := TT_in (tp1 (List.mem_of_getElem? (i := 202) rfl)) rfl
theorem CDd_257 : hdw 257 ∈ TT := TT_in (tp1 (List.mem_of_getElem? (i := 202) rfl)) rfl
theorem CDd_258 : hdw 258 ∈ TT := TT_in (tp1 (List.mem_of_getElem? (i := 202) rfl)) rfl
theorem CDd_259 : hdw 259 ∈ TT := TT_in (tp1 (List.mem_of_getElem? (i := 202) rfl)) rfl
theorem CDd_260 : hdw 260 ∈ TT := TT_in (tp1 (List.mem_of_getElem? (i := 202) rfl)) rfl
theorem CDd_261 : hdw 261 ∈ TT := TT_in (tp1 (List.mem_of_getElem? (i := 202) rfl)) rfl
theorem CDd_262 : hdw 262 ∈ TT := TT_in (tp1 (List.mem_of_getElem? (i := 202) rfl)) rfl
theorem CDd_263 : hdw 263 ∈ TT := TT_in (tp1 (List.mem_of_getElem? (i := 202) rfl)) rfl
theorem CDd_264 : hdw 264 ∈ TT := TT_in (tp1 (List.mem_of_getElem? (i := 202) rfl)) rfl
theorem CDd_265 : hdw 265 ∈ TT := TT_in (tp1 (List.mem_of_getElem? (i := 202) rfl)) rfl
theorem CDd_266 : hdw 266 ∈ TT := TT_in (tp1 (List.mem_of_getElem? (i := 202) rfl)) rfl
theorem CDd_267 : hdw 267 ∈ TT := TT_in (tp1 (List.mem_of_getElem? (i := 202) rfl)) rfl
theorem CDd_268 : hdw 268 ∈ TT := TT_in (tp1 (List.mem_of_getElem? (i := 202) rfl)) rfl
theorem CDd_269 : hdw 269 ∈ TT := TT_in (tp1 (List.mem_of_getElem? (i := 202) rfl)) rfl
theorem CDd_270 : hdw 270 ∈ TT := TT_in (tp1 (List.mem_of_getElem? (i := 202) rfl)) rfl
theorem CDd_271 : hdw 271 ∈ TT := TT_in (tp1 (List.mem_of_getElem? (i := 202) rfl)) rfl
theorem CDd_272 : hdw 272 ∈ TT := TT_in (tp1 (List.mem_of_getElem? (i := 202) rfl)) rfl
theorem CDd_273 : hdw 273 ∈ TT := TT_in (tp1 (List.mem_of_getElem? (i := 202) rfl)) rfl
theorem CDd_274 : hdw 274 ∈ TT := TT_in (tp1 (List.mem_of_getElem? (i := 202) rfl)) rfl
theorem CDd_275 : hdw 275 ∈ TT := TT_in (tp1 (List.mem_of_getElem? (i := 202) rfl)) rfl
theorem CDd_276 : hdw 276 ∈ TT := TT_in (tp1 (List.mem_of_getElem? (i := 202) rfl)) rfl
theorem CDd_277 : hdw 277 ∈ TT := TT_in (tp1 (List.mem_of_getElem? (i := 202) rfl)) rfl
theorem CDd_278 : hdw 278 ∈ TT := TT_in (tp1 (List.mem_of_getElem? (i := 202) rfl)) rfl
theorem CDd_279 : hdw 279 ∈ TT := TT_in (tp1 (List.mem_of_getElem? (i := 202) rfl)) rfl
theorem CDd_280 : hdw 280 ∈ TT := TT_in (tp1 (List.mem_of_getElem? (i := 202) rfl)) rfl
theorem CDd_281 : hdw 281 ∈ TT := TT_in (tp1 (List.mem_of_getElem? (i := 202) rfl)) rfl
theorem CDd_282 : hdw 282 ∈ TT := TT_in (tp1 (List.mem_of_getElem? (i := 202) rfl)) rfl
theorem CDd_283 : hdw 283 ∈ TT := TT_in (tp1 (List.mem_of_getElem? (i := 202) rfl)) rfl
theorem CDd_284 : hdw 284 ∈ TT := TT_in (tp1 (List.mem_of_getElem? (i := 202) rfl)) rfl
theorem CDd_285 : hdw 285 ∈ TT := TT_in (tp1 (List.mem_of_getElem? (i := 202) rfl)) rfl
theorem CDd_286 : hdw 286 ∈ TT := TT_in (tp1 (List.mem_of_getElem? (i := 202) rfl)) rfl
theorem CDd_287 : hdw 287 ∈ TT := TT_in (tp1 (List.mem_of_getElem? (i := 202) rfl)) rfl
theorem CDd_288 : hdw 288 ∈ TT := TT_in (tp1 (List.mem_of_getElem? (i := 202) rfl)) rfl
theorem CDd_289 : hdw 289 ∈ TT := TT_in (tp1 (List.mem_of_getElem? (i := 202) rfl)) rfl
theorem CDd_290 : hdw 290 ∈ TT := TT_in (tp1 (List.mem_of_getElem? (i := 202) rfl)) rfl
theorem CDd_291 : hdw 291 ∈ TT := TT_in (tp1 (List.mem_of_getElem? (i := 202) rfl)) rfl
theorem CDd_292 : hdw 292 ∈ TT := TT_in (tp1 (List.mem_of_getElem? (i := 202) rfl)) rfl
theorem CDd_293 : hdw 293 ∈ TT := TT_in (tp1 (List.mem_of_getElem? (i := 202) rfl)) rfl
theorem CDd_294 : hdw 294 ∈ TT := TT_in (tp1 (List.mem_of_getElem? (i := 202) rfl)) rfl
theorem CDd_295 : hdw 295 ∈ TT := TT_in (tp1 (List.mem_of_getElem? (i := 202) rfl)) rfl
theorem CDd_296 : hdw 296 ∈ TT := TT_in (tp1 (List.mem_of_getElem? (i := 202) rfl)) rfl
theorem CDd_297 : hdw 297 ∈ TT := TT_in (tp1 (List.mem_of_getElem? (i := 202) rfl)) rfl
theorem CDd_298 : hdw 298 ∈ TT := TT_in (tp1 (List.mem_of_getElem? (i := 202) rfl)) rfl
theorem CDd_299 : hdw 299 ∈ TT := TT_in (tp1 (List.mem_of_getElem? (i := 202) rfl)) rfl
theorem CDd_c0 : ∀ e ∈ ([0, 1, 2, 3, 4, 5, 6, 7, 8, 9, 10, 11, 12, 13, 14, 15, 16, 17, 18, 19, 20, 21, 22, 23, 24, 25, 26, 27, 28, 29, 30, 31, 32, 33, 34, 35, 36, 37, 38, 39] : List Nat), hdw e ∈ TT := List.forall_mem_cons.mpr ⟨CDd_0, List.forall_mem_cons.mpr ⟨CDd_1, List.forall_mem_cons.mpr ⟨CDd_2, List.forall_mem_cons.mpr ⟨CDd_3, List.forall_mem_cons.mpr ⟨CDd_4, List.forall_mem_cons.mpr ⟨CDd_5, List.forall_mem_cons.mpr ⟨CDd_6, List.forall_mem_cons.mpr ⟨CDd_7, List.forall_mem_cons.mpr ⟨CDd_8, List.forall_mem_cons.mpr ⟨CDd_9, List.forall_mem_cons.mpr ⟨CDd_10, List.forall_mem_cons.mpr ⟨CDd_11, List.forall_mem_cons.mpr ⟨CDd_12, List.forall_mem_cons.mpr ⟨CDd_13, List.forall_mem_cons.mpr ⟨CDd_14, List.forall_mem_cons.mpr ⟨CDd_15, List.forall_mem_cons.mpr ⟨CDd_16, List.forall_mem_cons.mpr ⟨CDd_17, List.forall_mem_cons.mpr ⟨CDd_18, List.forall_mem_cons.mpr ⟨CDd_19, List.forall_mem_cons.mpr ⟨CDd_20, List.forall_mem_cons.mpr ⟨CDd_21, List.forall_mem_cons.mpr ⟨CDd_22, List.forall_mem_cons.mpr ⟨CDd_23, List.forall_mem_cons.mpr ⟨CDd_24, List.forall_mem_cons.mpr ⟨CDd_25, List.forall_mem_cons.mpr ⟨CDd_26, List.forall_mem_cons.mpr ⟨CDd_27, List.forall_mem_cons.mpr ⟨CDd_28, List.forall_mem_cons.mpr ⟨CDd_29, List.forall_mem_cons.mpr ⟨CDd_30, List.forall_mem_cons.mpr ⟨CDd_31, List.forall_mem_cons.mpr ⟨CDd_32, List.forall_mem_cons.mpr ⟨CDd_33, List.forall_mem_cons.mpr ⟨CDd_34, List.forall_mem_cons.mpr ⟨CDd_35, List.forall_mem_cons.mpr ⟨CDd_36, List.forall_mem_cons.mpr ⟨CDd_37, List.forall_mem_cons.mpr ⟨CDd_38, List.forall_mem_cons.mpr ⟨CDd_39, fun _ h => absurd h List.not_mem_nil⟩⟩⟩⟩⟩⟩⟩⟩⟩⟩⟩⟩⟩⟩⟩⟩⟩⟩⟩⟩⟩⟩⟩⟩⟩⟩⟩⟩⟩⟩⟩⟩⟩⟩⟩⟩⟩⟩⟩⟩
theorem CDd_c1 : ∀ e ∈ ([40, 41, 42, 43, 44, 45, 46, 47, 48, 49, 50, 51, 52, 53, 54, 55, 56, 57, 58, 59, 60, 61, 62, 63, 64, 65, 66, 67, 68, 69, 70, 71, 72, 73, 74, 75, 76, 77, 78, 79] : List Nat), hdw e ∈ TT := List.forall_mem_cons.mpr ⟨CDd_40, List.forall_mem_cons.mpr ⟨CDd_41, List.forall_mem_cons.mpr ⟨CDd_42, List.forall_mem_cons.mpr ⟨CDd_43, List.forall_mem_cons.mpr ⟨CDd_44, List.forall_mem_cons.mpr ⟨CDd_45, List.forall_mem_cons.mpr ⟨CDd_46, List.forall_mem_cons.mpr ⟨CDd_47, List.forall_mem_cons.mpr ⟨CDd_48, List.forall_mem_cons.mpr ⟨CDd_49, List.forall_mem_cons.mpr ⟨CDd_50, List.forall_mem_cons.mpr ⟨CDd_51, List.forall_mem_cons.mpr ⟨CDd_52, List.forall_mem_cons.mpr ⟨CDd_53, List.forall_mem_cons.mpr ⟨CDd_54, List.forall_mem_cons.mpr ⟨CDd_55, List.forall_mem_cons.mpr ⟨CDd_56, List.forall_mem_cons.mpr ⟨CDd_57, List.forall_mem_cons.mpr ⟨CDd_58, List.forall_mem_cons.mpr ⟨CDd_59, List.forall_mem_cons.mpr ⟨CDd_60, List.forall_mem_cons.mpr ⟨CDd_61, List.forall_mem_cons.mpr ⟨CDd_62, List.forall_mem_cons.mpr ⟨CDd_63, List.forall_mem_cons.mpr ⟨CDd_64, List.forall_mem_cons.mpr ⟨CDd_65, List.forall_mem_cons.mpr ⟨CDd_66, List.forall_mem_cons.mpr ⟨CDd_67, List.forall_mem_cons.mpr ⟨CDd_68, List.forall_mem_cons.mpr ⟨CDd_69, List.forall_mem_cons.mpr ⟨CDd_70, List.forall_mem_cons.mpr ⟨CDd_71, List.forall_mem_cons.mpr ⟨CDd_72, List.forall_mem_cons.mpr ⟨CDd_73, List.forall_mem_cons.mpr ⟨CDd_74, List.forall_mem_cons.mpr ⟨CDd_75, List.forall_mem_cons.mpr ⟨CDd_76, List.forall_mem_cons.mpr ⟨CDd_77, List.forall_mem_cons.mpr ⟨CDd_78, List.forall_mem_cons.mpr ⟨CDd_79, fun _ h => absurd h List.not_mem_nil⟩⟩⟩⟩⟩⟩⟩⟩⟩⟩⟩⟩⟩⟩⟩⟩⟩⟩⟩⟩⟩⟩⟩⟩⟩⟩⟩⟩⟩⟩⟩⟩⟩⟩⟩⟩⟩⟩⟩⟩
theorem CDd_c2 : ∀ e ∈ ([80, 81, 82, 83, 84, 85, 86, 87, 88, 89, 90, 91, 92, 93, 94, 95, 96, 97, 98, 99, 100, 101, 102, 103, 104, 105, 106, 107, 108, 109, 110, 111, 112, 113, 114, 115, 116, 117, 118, 119] : List Nat), hdw e ∈ TT := List.forall_mem_cons.mpr ⟨CDd_80, List.forall_mem_cons.mpr ⟨CDd_81, List.forall_mem_cons.mpr ⟨CDd_82, List.forall_mem_cons.mpr ⟨CDd_83, List.forall_mem_cons.mpr ⟨CDd_84, List.forall_mem_cons.mpr ⟨CDd_85, List.forall_mem_cons.mpr ⟨CDd_86, List.forall_mem_cons.mpr ⟨CDd_87, List.forall_mem_cons.mpr ⟨CDd_88, List.forall_mem_cons.mpr ⟨CDd_89, List.forall_mem_cons.mpr ⟨CDd_90, List.forall_mem_cons.mpr ⟨CDd_91, List.forall_mem_cons.mpr ⟨CDd_92, List.forall_mem_cons.mpr ⟨CDd_93, List.forall_mem_cons.mpr ⟨CDd_94, List.forall_mem_cons.mpr ⟨CDd_95, List.forall_mem_cons.mpr ⟨CDd_96, List.forall_mem_cons.mpr ⟨CDd_97, List.forall_mem_cons.mpr ⟨CDd_98, List.forall_mem_cons.mpr ⟨CDd_99, List.forall_mem_cons.mpr ⟨CDd_100, List.forall_mem_cons.mpr ⟨CDd_101, List.forall_mem_cons.mpr ⟨CDd_102, List.forall_mem_cons.mpr ⟨CDd_103, List.forall_mem_cons.mpr ⟨CDd_104, List.forall_mem_cons.mpr ⟨CDd_105, List.forall_mem_cons.mpr ⟨CDd_106, List.forall_mem_cons.mpr ⟨CDd_107, List.forall_mem_cons.mpr ⟨CDd_108, List.forall_mem_cons.mpr ⟨CDd_109, List.forall_mem_cons.mpr ⟨CDd_110, List.forall_mem_cons.mpr ⟨CDd_111, List.forall_mem_cons.mpr ⟨CDd_112, List.forall_mem_cons.mpr ⟨CDd_113, List.forall_mem_cons.mpr ⟨CDd_114, List.forall_mem_cons.mpr ⟨CDd_115, List.forall_mem_cons.mpr ⟨CDd_116, List.forall_mem_cons.mpr ⟨CDd_117, List.forall_mem_cons.mpr ⟨CDd_118, List.forall_mem_cons.mpr ⟨CDd_119, fun _ h => absurd h List.not_mem_nil⟩⟩⟩⟩⟩⟩⟩⟩⟩⟩⟩⟩⟩⟩⟩⟩⟩⟩⟩⟩⟩⟩⟩⟩⟩⟩⟩⟩⟩⟩⟩⟩⟩⟩⟩⟩⟩⟩⟩⟩
theorem CDd_c3 : ∀ e ∈ ([120, 121, 122, 123, 124, 125, 126, 127, 128, 129, 130, 131, 132, 133, 134, 135, 136, 137, 138, 139, 140, 141, 142, 143, 144, 145, 146, 147, 148, 149, 150, 151, 152, 153, 154, 155, 156, 157, 158, 159] : List Nat), hdw e ∈ TT := List.forall_mem_cons.mpr ⟨CDd_120, List.forall_mem_cons.mpr ⟨CDd_121, List.forall_mem_cons.mpr ⟨CDd_122, List.forall_mem_cons.mpr ⟨CDd_123, List.forall_mem_cons.mpr ⟨CDd_124, List.forall_mem_cons.mpr ⟨CDd_125, List.forall_mem_cons.mpr ⟨CDd_126, List.forall_mem_cons.mpr ⟨CDd_127, List.forall_mem_cons.mpr ⟨CDd_128, List.forall_mem_cons.mpr ⟨CDd_129, List.forall_mem_cons.mpr ⟨CDd_130, List.forall_mem_cons.mpr ⟨CDd_131, List.forall_mem_cons.mpr ⟨CDd_132, List.forall_mem_cons.mpr ⟨CDd_133, List.forall_mem_cons.mpr ⟨CDd_134, List.forall_mem_cons.mpr ⟨CDd_135, List.forall_mem_cons.mpr ⟨CDd_136, List.forall_mem_cons.mpr ⟨CDd_137, List.forall_mem_cons.mpr ⟨CDd_138, List.forall_mem_cons.mpr ⟨CDd_139, List.forall_mem_cons.mpr ⟨CDd_140, List.forall_mem_cons.mpr ⟨CDd_141, List.forall_mem_cons.mpr ⟨CDd_142, List.forall_mem_cons.mpr ⟨CDd_143, List.forall_mem_cons.mpr ⟨CDd_144, List.forall_mem_cons.mpr ⟨CDd_145, List.forall_mem_cons.mpr ⟨CDd_146, List.forall_mem_cons.mpr ⟨CDd_147, List.forall_mem_cons.mpr ⟨CDd_148, List.forall_mem_cons.mpr ⟨CDd_149, List.forall_mem_cons.mpr ⟨CDd_150, List.forall_mem_cons.mpr ⟨CDd_151, List.forall_mem_cons.mpr ⟨CDd_152, List.forall_mem_cons.mpr ⟨CDd_153, List.forall_mem_cons.mpr ⟨CDd_154, List.forall_mem_cons.mpr ⟨CDd_155, List.forall_mem_cons.mpr ⟨CDd_156, List.forall_mem_cons.mpr ⟨CDd_157, List.forall_mem_cons.mpr ⟨CDd_158, List.forall_mem_cons.mpr ⟨CDd_159, fun _ h => absurd h List.not_mem_nil⟩⟩⟩⟩⟩⟩⟩⟩⟩⟩⟩⟩⟩⟩⟩⟩⟩⟩⟩⟩⟩⟩⟩⟩⟩⟩⟩⟩⟩⟩⟩⟩⟩⟩⟩⟩⟩⟩⟩⟩
theorem CDd_c4 : ∀ e ∈ ([160, 161, 162, 163, 164, 165, 166, 167, 168, 169, 170, 171, 172, 173, 174, 175, 176, 177, 178, 179, 180, 181, 182, 183, 184, 185, 186, 187, 188, 189, 190, 191, 192, 193, 194, 195, 196, 197, 198, 199] : List Nat), hdw e ∈ TT := List.forall_mem_cons.mpr ⟨CDd_160, List.forall_mem_cons.mpr ⟨CDd_161, List.forall_mem_cons.mpr ⟨CDd_162, List.forall_mem_cons.mpr ⟨CDd_163, List.forall_mem_cons.mpr ⟨CDd_164, List.forall_mem_cons.mpr ⟨CDd_165, List.forall_mem_cons.mpr ⟨CDd_166, List.forall_mem_cons.mpr ⟨CDd_167, List.forall_mem_cons.mpr ⟨CDd_168, List.forall_mem_cons.mpr ⟨CDd_169, List.forall_mem_cons.mpr ⟨CDd_170, List.forall_mem_cons.mpr ⟨CDd_171, List.forall_mem_cons.mpr ⟨CDd_172, List.forall_mem_cons.mpr ⟨CDd_173, List.forall_mem_cons.mpr ⟨CDd_174, List.forall_mem_cons.mpr ⟨CDd_175, List.forall_mem_cons.mpr ⟨CDd_176, List.forall_mem_cons.mpr ⟨CDd_177, List.forall_mem_cons.mpr ⟨CDd_178, List.forall_mem_cons.mpr ⟨CDd_179, List.forall_mem_cons.mpr ⟨CDd_180, List.forall_mem_cons.mpr ⟨CDd_181, List.forall_mem_cons.mpr ⟨CDd_182, List.forall_mem_cons.mpr ⟨CDd_183, List.forall_mem_cons.mpr ⟨CDd_184, List.forall_mem_cons.mpr ⟨CDd_185, List.forall_mem_cons.mpr ⟨CDd_186, List.forall_mem_cons.mpr ⟨CDd_187, List.forall_mem_cons.mpr ⟨CDd_188, List.forall_mem_cons.mpr ⟨CDd_189, List.forall_mem_cons.mpr ⟨CDd_190, List.forall_mem_cons.mpr ⟨CDd_191, List.forall_mem_cons.mpr ⟨CDd_192, List.forall_mem_cons.mpr ⟨CDd_193, List.forall_mem_cons.mpr ⟨CDd_194, List.forall_mem_cons.mpr ⟨CDd_195, List.forall_mem_cons.mpr ⟨CDd_196, List.forall_mem_cons.mpr ⟨CDd_197, List.forall_mem_cons.mpr ⟨CDd_198, List.forall_mem_cons.mpr ⟨CDd_199, fun _ h => absurd h List.not_mem_nil⟩⟩⟩⟩⟩⟩⟩⟩⟩⟩⟩⟩⟩⟩⟩⟩⟩⟩⟩⟩⟩⟩⟩⟩⟩⟩⟩⟩⟩⟩⟩⟩⟩⟩⟩⟩⟩⟩⟩⟩
theorem CDd_c5 : ∀ e ∈ ([200, 201, 202, 203, 204, 205, 206, 207, 208, 209, 210, 211, 212, 213, 214, 215, 216, 217, 218, 219, 220, 221, 222, 223, 224, 225, 226, 227, 228, 229, 230, 231, 232, 233, 234, 235, 236, 237, 238, 239] : List Nat), hdw e ∈ TT := List.forall_mem_cons.mpr ⟨CDd_200, List.forall_mem_cons.mpr ⟨CDd_201, List.forall_mem_cons.mpr ⟨CDd_202, List.forall_mem_cons.mpr ⟨CDd_203, List.forall_mem_cons.mpr ⟨CDd_204, List.forall_mem_cons.mpr ⟨CDd_205, List.forall_mem_cons.mpr ⟨CDd_206, List.forall_mem_cons.mpr ⟨CDd_207, List.forall_mem_cons.mpr ⟨CDd_208, List.forall_mem_cons.mpr ⟨CDd_209, List.forall_mem_cons.mpr ⟨CDd_210, List.forall_mem_cons.mpr ⟨CDd_211, List.forall_mem_cons.mpr ⟨CDd_212, List.forall_mem_cons.mpr ⟨CDd_213, List.forall_mem_cons.mpr ⟨CDd_214, List.forall_mem_cons.mpr ⟨CDd_215, List.forall_mem_cons.mpr ⟨CDd_216, List.forall_mem_cons.mpr ⟨CDd_217, List.forall_mem_cons.mpr ⟨CDd_218, List.forall_mem_cons.mpr ⟨CDd_219, List.forall_mem_cons.mpr ⟨CDd_220, List.forall_mem_cons.mpr ⟨CDd_221, List.forall_mem_cons.mpr ⟨CDd_222, List.forall_mem_cons.mpr ⟨CDd_223, List.forall_mem_cons.mpr ⟨CDd_224, List.forall_mem_cons.mpr ⟨CDd_225, List.forall_mem_cons.mpr ⟨CDd_226, List.forall_mem_cons.mpr ⟨CDd_227, List.forall_mem_cons.mpr ⟨CDd_228, List.forall_mem_cons.mpr ⟨CDd_229, List.forall_mem_cons.mpr ⟨CDd_230, List.forall_mem_cons.mpr ⟨CDd_231, List.forall_mem_cons.mpr ⟨CDd_232, List.forall_mem_cons.mpr ⟨CDd_233, List.forall_mem_cons.mpr ⟨CDd_234, List.forall_mem_cons.mpr ⟨CDd_235, List.forall_mem_cons.mpr ⟨CDd_236, List.forall_mem_cons.mpr ⟨CDd_237, List.forall_mem_cons.mpr ⟨CDd_238, List.forall_mem_cons.mpr ⟨CDd_239, fun _ h => absurd h List.not_mem_nil⟩⟩⟩⟩⟩⟩⟩⟩⟩⟩⟩⟩⟩⟩⟩⟩⟩⟩⟩⟩⟩⟩⟩⟩⟩⟩⟩⟩⟩⟩⟩⟩⟩⟩⟩⟩⟩⟩⟩⟩
theorem CDd_c6 : ∀ e ∈ ([240, 241, 242, 243, 244, 245, 246, 247, 248, 249, 250, 251, 252, 253, 254, 255, 256, 257, 258, 259, 260, 261, 262, 263, 264, 265, 266, 267, 268, 269, 270, 271, 272, 273, 274, 275, 276, 277, 278, 279] : List Nat), hdw e ∈ TT := List.forall_mem_cons.mpr ⟨CDd_240, List.forall_mem_cons.mpr ⟨CDd_241, List.forall_mem_cons.mpr ⟨CDd_242, List.forall_mem_cons.mpr ⟨CDd_243, List.forall_mem_cons.mpr ⟨CDd_244, List.forall_mem_cons.mpr ⟨CDd_245, List.forall_mem_cons.mpr ⟨CDd_246, List.forall_mem_cons.mpr ⟨CDd_247, List.forall_mem_cons.mpr ⟨CDd_248, List.forall_mem_cons.mpr ⟨CDd_249, List.forall_mem_cons.mpr ⟨CDd_250, List.forall_mem_cons.mpr ⟨CDd_251, List.forall_mem_cons.mpr ⟨CDd_252, List.forall_mem_cons.mpr ⟨CDd_253, List.forall_mem_cons.mpr ⟨CDd_254, List.forall_mem_cons.mpr ⟨CDd_255, List.forall_mem_cons.mpr ⟨CDd_256, List.forall_mem_cons.mpr ⟨CDd_257, List.forall_mem_cons.mpr ⟨CDd_258, List.forall_mem_cons.mpr ⟨CDd_259, List.forall_mem_cons.mpr ⟨CDd_260, List.forall_mem_cons.mpr ⟨CDd_261, List.forall_mem_cons.mpr ⟨CDd_262, List.forall_mem_cons.mpr ⟨CDd_263, List.forall_mem_cons.mpr ⟨CDd_264, List.forall_mem_cons.mpr ⟨CDd_265, List.forall_mem_cons.mpr ⟨CDd_266, List.forall_mem_cons.mpr ⟨CDd_267, List.forall_mem_cons.mpr ⟨CDd_268, List.forall_mem_cons.mpr ⟨CDd_269, List.forall_mem_cons.mpr ⟨CDd_270, List.forall_mem_cons.mpr ⟨CDd_271, List.forall_mem_cons.mpr ⟨CDd_272, List.forall_mem_cons.mpr ⟨CDd_273, List.forall_mem_cons.mpr ⟨CDd_274, List.forall_mem_cons.mpr ⟨CDd_275, List.forall_mem_cons.mpr ⟨CDd_276, List.forall_mem_cons.mpr ⟨CDd_277, List.forall_mem_cons.mpr ⟨CDd_278, List.forall_mem_cons.mpr ⟨CDd_279, fun _ h => absurd h List.not_mem_nil⟩⟩⟩⟩⟩⟩⟩⟩⟩⟩⟩⟩⟩⟩⟩⟩⟩⟩⟩⟩⟩⟩⟩⟩⟩⟩⟩⟩⟩⟩⟩⟩⟩⟩⟩⟩⟩⟩⟩⟩
theorem CDd_c7 : ∀ e ∈ ([280, 281, 282, 283, 284, 285, 286, 287, 288, 289, 290, 291, 292, 293, 294, 295, 296, 297, 298, 299] : List Nat), hdw e ∈ TT := List.forall_mem_cons.mpr ⟨CDd_280, List.forall_mem_cons.mpr ⟨CDd_281, List.forall_mem_cons.mpr ⟨CDd_282, List.forall_mem_cons.mpr ⟨CDd_283, List.forall_mem_cons.mpr ⟨CDd_284, List.forall_mem_cons.mpr ⟨CDd_285, List.forall_mem_cons.mpr ⟨CDd_286, List.forall_mem_cons.mpr ⟨CDd_287, List.forall_mem_cons.mpr ⟨CDd_288, List.forall_mem_cons.mpr ⟨CDd_289, List.forall_mem_cons.mpr ⟨CDd_290, List.forall_mem_cons.mpr ⟨CDd_291, List.forall_mem_cons.mpr ⟨CDd_292, List.forall_mem_cons.mpr ⟨CDd_293, List.forall_mem_cons.mpr ⟨CDd_294, List.forall_mem_cons.mpr ⟨CDd_295, List.forall_mem_cons.mpr ⟨CDd_296, List.forall_mem_cons.mpr ⟨CDd_297, List.forall_mem_cons.mpr ⟨CDd_298, List.forall_mem_cons.mpr ⟨CDd_299, fun _ h => absurd h List.not_mem_nil⟩⟩⟩⟩⟩⟩⟩⟩⟩⟩⟩⟩⟩⟩⟩⟩⟩⟩⟩⟩
set_option maxRecDepth 100000 in
theorem CDd_in : ∀ e ∈ CDd, hdw e ∈ TT := List.forall_mem_append.mpr ⟨CDd_c0, List.forall_mem_append.mpr ⟨CDd_c1, List.forall_mem_append.mpr ⟨CDd_c2, List.forall_mem_append.mpr ⟨CDd_c3, List.forall_mem_append.mpr ⟨CDd_c4, List.forall_mem_append.mpr ⟨CDd_c5, List.forall_mem_append.mpr ⟨CDd_c6, CDd_c7⟩⟩⟩⟩⟩⟩⟩
def IMd : List (Nat) := [0, 1, 2, 6, 7, 8, 9, 10, 11, 13, 14, 15, 16, 17, 18, 19, 20, 21, 23, 24, 25, 26, 27, 28, 30, 31, 32, 33, 34, 35, 36, 37, 38, 39, 40, 41, 42, 51, 52, 53, 54, 55, 56, 57, 58, 59, 60, 61, 62, 63, 64, 65, 66, 67, 68, 69, 70, 71, 72, 73, 74, 75, 76, 77, 78, 79, 80, 81, 82, 85, 86, 87, 88, 89, 90, 91, 92, 93, 94, 95, 96, 97, 98, 99, 100, 101, 102, 103, 104, 105, 106, 109, 111, 112, 114, 115, 116, 117, 119, 122, 123, 124, 132, 134, 135, 137, 139, 140, 141, 142, 144, 146, 149, 152, 153, 154, 155, 156, 157, 158, 159, 200, 201, 202, 203, 204, 205, 206, 207, 208, 209, 212, 214, 215, 218, 219, 220, 221, 222, 223, 227, 228, 229, 230, 234]
def mkI (y : Nat) : Cond := .instanceMethod (nmy y)
def IMd_0 : List (Nat) := [0, 1, 2, 6, 7, 8, 9, 10, 11, 13, 14, 15, 16, 17, 18, 19, 20, 21, 23, 24, 25, 26, 27, 28, 30, 31, 32, 33, 34, 35, 36, 37, 38, 39, 40, 41, 42, 51, 52, 53, 54, 55, 56, 57, 58, 59, 60, 61, 62, 63, 64, 65, 66, 67, 68, 69, 70, 71, 72, 73]
set_option maxRecDepth 100000 in
theorem IMd_in0 : ∀ e ∈ IMd_0, mkI e ∈ TT := in_map _ _ (in_by _ [233, 416, 621, 1314, 719, 270, 427, 626, 724, 353, 605, 762, 75, 859, 895, 899, 903, 891, 962, 373, 648, 653, 658, 661, 665, 670, 674, 103, 879, 420, 1007, 729, 711, 703, 572, 484, 568, 97, 875, 130, 401, 405, 966, 983, 91, 871, 928, 1029, 909, 924, 971, 980, 1004, 1013, 1021, 989, 226, 409, 609, 564] (by decide +kernel) (by decide +kernel))
def IMd_1 : List (Nat) := [74, 75, 76, 77, 78, 79, 80, 81, 82, 85, 86, 87, 88, 89, 90, 91, 92, 93, 94, 95, 96, 97, 98, 99, 100, 101, 102, 103, 104, 105, 106, 109, 111, 112, 114, 115, 116, 117, 119, 122, 123, 124, 132, 134, 135, 137, 139, 140, 141, 142, 144, 146, 149, 152, 153, 154, 155, 156, 157, 158]
set_option maxRecDepth 100000 in
theorem IMd_in1 : ∀ e ∈ IMd_1, mkI e ∈ TT := in_map _ _ (in_by _ [686, 771, 690, 1359, 1364, 695, 700, 1290, 1306, 632, 636, 641, 645, 678, 683, 708, 716, 185, 883, 887, 917, 913, 932, 937, 958, 992, 996, 67, 855, 863, 867, 480, 488, 1341, 1326, 1383, 1355, 577, 1351, 1401, 1397, 1330, 1393, 581, 1279, 1298, 1310, 733, 1318, 742, 766, 775, 779, 784, 788, 493, 1284, 738, 586, 1388] (by decide +kernel) (by decide +kernel))
def IMd_2 : List (Nat) := [159, 200, 201, 202, 203, 204, 205, 206, 207, 208, 209, 212, 214, 215, 218, 219, 220, 221, 222, 223, 227, 228, 229, 230, 234]
set_option maxRecDepth 100000 in
theorem IMd_in2 : ∀ e ∈ IMd_2, mkI e ∈ TT := in_map _ _ (in_by _ [1335, 1037, 1040, 1066, 1070, 1163, 1167, 1185, 1189, 1078, 1082, 1108, 1130, 1134, 1219, 1225, 1228, 1240, 1237, 1232, 807, 811, 821, 817, 1157] (by decide +kernel) (by decide +kernel))
set_option maxRecDepth 100000 in
theorem IMd_ap : IMd = IMd_0 ++ (IMd_1 ++ (IMd_2)) := by rfl
theorem IMd_in : ∀ e ∈ IMd, mkI e ∈ TT := fun e h => by
  rw [IMd_ap] at h
  exact (List.mem_append.mp h).elim (fun h => IMd_in0 e h) (fun h => (List.mem_append.mp h).elim (fun h => IMd_in1 e h) (fun h => IMd_in2 e h))
def STd : List (Nat) := [43, 44, 45, 50, 180, 181, 182, 183, 184, 185, 186, 187, 188, 210, 211, 213, 216, 217, 224, 225, 226, 231, 232]
def mkS (y : Nat) : Cond := .static (nmy y)
def STd_0 : List (Nat) := [43, 44, 45, 50, 180, 181, 182, 183, 184, 185, 186, 187, 188, 210, 211, 213, 216, 217, 224, 225, 226, 231, 232]
set_option maxRecDepth 100000 in
theorem STd_in0 : ∀ e ∈ STd_0, mkS e ∈ TT := in_map _ _ (in_by _ [413, 613, 1345, 1302, 796, 793, 804, 801, 1176, 1032, 1295, 1276, 1323, 1085, 1096, 1170, 1192, 1195, 1246, 1249, 1252, 825, 828] (by decide +kernel) (by decide +kernel))
set_option maxRecDepth 100000 in
theorem STd_ap : STd = STd_0 := by rfl
theorem STd_in : ∀ e ∈ STd, mkS e ∈ TT := fun e h => by
  rw [STd_ap] at h
  exact STd_in0 e h
def SLd : List (Nat) := [1, 2, 6, 7, 9, 10, 11, 14, 15, 17, 18, 19, 20, 21, 23, 25, 26, 27, 28, 30, 31, 32, 34, 35, 36, 37, 38, 39, 40, 41, 42, 52, 53, 54, 55, 56, 57, 59, 60, 61, 62, 63, 64, 65, 66, 67, 68, 69, 71, 72, 73, 74, 75, 76, 77, 78, 79, 80, 81, 82, 85, 86, 87, 88, 89, 90, 91, 92, 94, 95, 96, 97, 98, 99, 100, 101, 102, 104, 105, 106, 109, 111, 112, 114, 115, 116, 117, 119, 122, 123, 124, 132, 134, 135, 137, 139, 140, 141, 142, 144, 146, 149, 152, 153, 154, 155, 156, 157, 158, 159, 202, 204, 206, 218, 227, 228, 229, 230, 234]
def mkV (y : Nat) : Cond := .selects (RN (cid y)) (nmy y) (nmy y)
def SLd_0 : List (Nat) := [1, 2, 6, 7, 9, 10, 11, 14, 15, 17, 18, 19, 20, 21, 23, 25, 26, 27, 28, 30, 31, 32, 34, 35, 36, 37, 38, 39, 40, 41, 42, 52, 53, 54, 55, 56, 57, 59, 60, 61, 62, 63, 64, 65, 66, 67, 68, 69, 71, 72, 73, 74, 75, 76, 77, 78, 79, 80, 81, 82]
set_option maxRecDepth 100000 in
theorem SLd_in0 : ∀ e ∈ SLd_0, mkV e ∈ TT := in_map _ _ (in_by _ [417, 622, 1315, 720, 428, 627, 725, 606, 763, 860, 896, 900, 904, 892, 963, 649, 6, 7, 662, 666, 8, 9, 880, 421, 1008, 730, 712, 704, 573, 485, 569, 876, 0, 402, 406, 967, 984, 872, 19, 27, 17, 18, 21, 22, 24, 25, 26, 23, 410, 610, 565, 687, 772, 691, 1360, 30, 12, 13, 1291, 1307] (by decide +kernel) (by decide +kernel))
def SLd_1 : List (Nat) := [85, 86, 87, 88, 89, 90, 91, 92, 94, 95, 96, 97, 98, 99, 100, 101, 102, 104, 105, 106, 109, 111, 112, 114, 115, 116, 117, 119, 122, 123, 124, 132, 134, 135, 137, 139, 140, 141, 142, 144, 146, 149, 152, 153, 154, 155, 156, 157, 158, 159, 202, 204, 206, 218, 227, 228, 229, 230, 234]
set_option maxRecDepth 100000 in
theorem SLd_in1 : ∀ e ∈ SLd_1, mkV e ∈ TT := in_map _ _ (in_by _ [633, 637, 4, 5, 10, 11, 14, 15, 884, 888, 918, 914, 933, 20, 959, 993, 997, 856, 864, 868, 481, 489, 1342, 1327, 1384, 1356, 578, 1352, 1402, 1398, 1331, 1394, 582, 1280, 1299, 1311, 734, 1319, 743, 767, 776, 780, 785, 789, 1, 28, 16, 3, 31, 29, 1067, 1164, 1186, 1220, 808, 812, 822, 818, 1158] (by decide +kernel) (by decide +kernel))
set_option maxRecDepth 100000 in
theorem SLd_ap : SLd = SLd_0 ++ (SLd_1) := by rfl
theorem SLd_in : ∀ e ∈ SLd, mkV e ∈ TT := fun e h => by
  rw [SLd_ap] at h
  exact (List.mem_append.mp h).elim (fun h => SLd_in0 e h) (fun h => SLd_in1 e h)
def IZd : List (Nat) := [0, 1, 2, 3, 4, 5, 6, 7, 8, 9, 10, 11, 12, 13, 14, 15, 16, 17, 18, 19, 20]
def mkZ (c : Nat) : Cond := .initialized (RN c)
def IZd_0 : List (Nat) := [0, 1, 2, 3, 4, 5, 6, 7, 8, 9, 10, 11, 12, 13, 14, 15, 16, 17, 18, 19, 20]
set_option maxRecDepth 100000 in
theorem IZd_in0 : ∀ e ∈ IZd_0, mkZ e ∈ TT := in_map _ _ (in_by _ [40, 41, 42, 34, 43, 37, 44, 36, 35, 39, 38, 33, 47, 32, 48, 54, 46, 56, 52, 50, 53] (by decide +kernel) (by decide +kernel))
set_option maxRecDepth 100000 in
theorem IZd_ap : IZd = IZd_0 := by rfl
theorem IZd_in : ∀ e ∈ IZd, mkZ e ∈ TT := fun e h => by
  rw [IZd_ap] at h
  exact IZd_in0 e h
theorem cls_ok : ∀ y, y < NM → (nmy y).cls = RN (cid y) ∧ plainName (nmy y).cls = true ∧ cid y < 21 ∧ (nmy y).cls ≠ "java/lang/invoke/MethodHandle" ∧ (nmy y).cls ≠ "java/lang/invoke/VarHandle" := by decide +kernel
def OBd : List (Nat × Nat) := [(0, 3), (1, 3), (2, 3), (3, 3), (4, 3), (5, 3), (7, 3), (8, 3), (9, 3), (10, 3), (11, 1), (14, 1), (16, 3)]
def mkOBd (e : Nat × Nat) : Cond := .methodLink (RN e.1) e.2 Lib.objectInit
def OBd_0 : List (Nat × Nat) := [(0, 3), (1, 3), (2, 3), (3, 3), (4, 3), (5, 3), (7, 3), (8, 3), (9, 3), (10, 3), (11, 1), (14, 1), (16, 3)]
set_option maxRecDepth 100000 in
theorem OBd_in0 : ∀ e ∈ OBd_0, mkOBd e ∈ TT := in_map _ _ (in_by _ [235, 272, 355, 77, 375, 105, 99, 93, 228, 187, 69, 1230, 1042] (by decide +kernel) (by decide +kernel))
set_option maxRecDepth 100000 in
theorem OBd_ap : OBd = OBd_0 := by rfl
theorem OBd_in : ∀ e ∈ OBd, mkOBd e ∈ TT := fun e h => by
  rw [OBd_ap] at h
  exact OBd_in0 e h
def MId : List (Nat × Nat) := [(0, 45), (1, 33), (2, 31), (6, 9), (9, 202), (18, 304)]
def mkMId (e : Nat × Nat) : Cond := .methodLink (RN e.1) e.2 Lib.Math.min.name
def MId_0 : List (Nat × Nat) := [(0, 45), (1, 33), (2, 31), (6, 9), (9, 202), (18, 304)]
set_option maxRecDepth 100000 in
theorem MId_in0 : ∀ e ∈ MId_0, mkMId e ∈ TT := in_map _ _ (in_by _ [722, 727, 630, 615, 680, 1105] (by decide +kernel) (by decide +kernel))
set_option maxRecDepth 100000 in
theorem MId_ap : MId = MId_0 := by rfl
theorem MId_in : ∀ e ∈ MId, mkMId e ∈ TT := fun e h => by
  rw [MId_ap] at h
  exact MId_in0 e h
def MXd : List (Nat × Nat) := [(19, 194)]
def mkMXd (e : Nat × Nat) : Cond := .methodLink (RN e.1) e.2 Lib.Math.max.name
def MXd_0 : List (Nat × Nat) := [(19, 194)]
set_option maxRecDepth 100000 in
theorem MXd_in0 : ∀ e ∈ MXd_0, mkMXd e ∈ TT := in_map _ _ (in_by _ [1087] (by decide +kernel) (by decide +kernel))
set_option maxRecDepth 100000 in
theorem MXd_ap : MXd = MXd_0 := by rfl
theorem MXd_in : ∀ e ∈ MXd, mkMXd e ∈ TT := fun e h => by
  rw [MXd_ap] at h
  exact MXd_in0 e h
def CPd : List (Nat × Nat) := [(0, 30), (1, 22), (5, 23), (6, 15), (9, 112), (14, 212), (18, 150)]
def mkCPd (e : Nat × Nat) : Cond := .methodLink (RN e.1) e.2 arraycopyName
def CPd_0 : List (Nat × Nat) := [(0, 30), (1, 22), (5, 23), (6, 15), (9, 112), (14, 212), (18, 150)]
set_option maxRecDepth 100000 in
theorem CPd_in0 : ∀ e ∈ CPd_0, mkCPd e ∈ TT := in_map _ _ (in_by _ [624, 629, 423, 618, 619, 1160, 1106] (by decide +kernel) (by decide +kernel))
set_option maxRecDepth 100000 in
theorem CPd_ap : CPd = CPd_0 := by rfl
theorem CPd_in : ∀ e ∈ CPd, mkCPd e ∈ TT := fun e h => by
  rw [CPd_ap] at h
  exact CPd_in0 e h
def SNd : List (Nat × Nat) := [(10, 51), (13, 15), (16, 32)]
def mkSNd (e : Nat × Nat) : Cond := .methodLink (RN e.1) e.2 yJ0_length_8abf5
def SNd_0 : List (Nat × Nat) := [(10, 51), (13, 15), (16, 32)]
set_option maxRecDepth 100000 in
theorem SNd_in0 : ∀ e ∈ SNd_0, mkSNd e ∈ TT := in_map _ _ (in_by _ [920, 806, 1127] (by decide +kernel) (by decide +kernel))
set_option maxRecDepth 100000 in
theorem SNd_ap : SNd = SNd_0 := by rfl
theorem SNd_in : ∀ e ∈ SNd, mkSNd e ∈ TT := fun e h => by
  rw [SNd_ap] at h
  exact SNd_in0 e h
def SCd : List (Nat × Nat) := [(10, 55), (13, 21)]
def mkSCd (e : Nat × Nat) : Cond := .methodLink (RN e.1) e.2 yJ0_charAt_5068e
def SCd_0 : List (Nat × Nat) := [(10, 55), (13, 21)]
set_option maxRecDepth 100000 in
theorem SCd_in0 : ∀ e ∈ SCd_0, mkSCd e ∈ TT := in_map _ _ (in_by _ [921, 816] (by decide +kernel) (by decide +kernel))
set_option maxRecDepth 100000 in
theorem SCd_ap : SCd = SCd_0 := by rfl
theorem SCd_in : ∀ e ∈ SCd, mkSCd e ∈ TT := fun e h => by
  rw [SCd_ap] at h
  exact SCd_in0 e h
def KCd : List (Nat × Nat × Int32) := [(13, 7, 1013904223), (13, 14, 2147483647), (16, 39, 2147483647), (19, 200, 2147483639)]
def mkKC (e : Nat × Nat × Int32) : Cond := .constant (RN e.1) e.2.1 e.2.2
def KCd_0 : List (Nat × Nat × Int32) := [(13, 7, 1013904223), (13, 14, 2147483647), (16, 39, 2147483647), (19, 200, 2147483639)]
set_option maxRecDepth 100000 in
theorem KCd_in0 : ∀ e ∈ KCd_0, mkKC e ∈ TT := in_map _ _ (in_by _ [798, 799, 1094, 1090] (by decide +kernel) (by decide +kernel))
set_option maxRecDepth 100000 in
theorem KCd_ap : KCd = KCd_0 := by rfl
theorem KCd_in : ∀ e ∈ KCd, mkKC e ∈ TT := fun e h => by
  rw [KCd_ap] at h
  exact KCd_in0 e h
def LCd : List (Nat × Nat × Int32) := [(11, 89, 97)]
def mkLC (e : Nat × Nat × Int32) : Cond := .constantLong (RN e.1) e.2.1 e.2.2.toInt64
def LCd_0 : List (Nat × Nat × Int32) := [(11, 89, 97)]
set_option maxRecDepth 100000 in
theorem LCd_in0 : ∀ e ∈ LCd_0, mkLC e ∈ TT := in_map _ _ (in_by _ [399] (by decide +kernel) (by decide +kernel))
set_option maxRecDepth 100000 in
theorem LCd_ap : LCd = LCd_0 := by rfl
theorem LCd_in : ∀ e ∈ LCd, mkLC e ∈ TT := fun e h => by
  rw [LCd_ap] at h
  exact LCd_in0 e h
def CLd : List (Nat × Nat × Nat) := [(2, 9, 8), (7, 41, 5), (8, 9, 6), (8, 28, 9), (9, 56, 0), (9, 63, 5), (9, 70, 1), (11, 7, 3), (11, 16, 7), (11, 39, 6), (11, 49, 8), (11, 68, 2), (11, 75, 4), (12, 18, 12), (13, 26, 10), (13, 49, 11)]
def mkCL (e : Nat × Nat × Nat) : Cond := .classLink (RN e.1) e.2.1 (vck e.2.2).1
def CLd_0 : List (Nat × Nat × Nat) := [(2, 9, 8), (7, 41, 5), (8, 9, 6), (8, 28, 9), (9, 56, 0), (9, 63, 5), (9, 70, 1), (11, 7, 3), (11, 16, 7), (11, 39, 6), (11, 49, 8), (11, 68, 2), (11, 75, 4), (12, 18, 12), (13, 26, 10), (13, 49, 11)]
set_option maxRecDepth 100000 in
theorem CLd_in0 : ∀ e ∈ CLd_0, mkCL e ∈ TT := in_map _ _ (in_by _ [356, 100, 94, 182, 230, 265, 267, 72, 88, 221, 223, 350, 370, 1222, 64, 1034] (by decide +kernel) (by decide +kernel))
set_option maxRecDepth 100000 in
theorem CLd_ap : CLd = CLd_0 := by rfl
theorem CLd_in : ∀ e ∈ CLd, mkCL e ∈ TT := fun e h => by
  rw [CLd_ap] at h
  exact CLd_in0 e h
def CMd : List (Nat) := [0, 1, 2, 3, 4, 5, 6, 7, 8, 9, 10, 11, 12]
def mkCM (c : Nat) : Cond := .instantiable (vck c).1 (vck c).2.2
def CMd_0 : List (Nat) := [0, 1, 2, 3, 4, 5, 6, 7, 8, 9, 10, 11, 12]
set_option maxRecDepth 100000 in
theorem CMd_in0 : ∀ e ∈ CMd_0, mkCM e ∈ TT := in_map _ _ (in_by _ [231, 268, 351, 73, 371, 101, 95, 89, 224, 183, 65, 1035, 1223] (by decide +kernel) (by decide +kernel))
set_option maxRecDepth 100000 in
theorem CMd_ap : CMd = CMd_0 := by rfl
theorem CMd_in : ∀ e ∈ CMd, mkCM e ∈ TT := fun e h => by
  rw [CMd_ap] at h
  exact CMd_in0 e h
theorem fx_objI : Cond.instanceMethod Lib.objectInit ∈ TT := TT_in (tp1 (List.mem_of_getElem? (i := 38) (by decide +kernel))) rfl
theorem fx_objC : Cond.code Lib.objectInit ⟨#[0xb1]⟩ 1 none ∈ TT := TT_in (tp1 (List.mem_of_getElem? (i := 39) (by decide +kernel))) rfl
theorem fx_minS : Cond.static Lib.Math.min.name ∈ TT := TT_in (tp3 (List.mem_of_getElem? (i := 104) (by decide +kernel))) rfl
theorem fx_maxS : Cond.static Lib.Math.max.name ∈ TT := TT_in (tp5 (List.mem_of_getElem? (i := 96) (by decide +kernel))) rfl
theorem fx_maI : Cond.initialized "java/lang/Math" ∈ TT := TT_in (tp1 (List.mem_of_getElem? (i := 19) (by decide +kernel))) rfl
theorem fx_minC : Cond.code Lib.Math.min.name Lib.Math.min.code 2 (some .int) ∈ TT := TT_in (tp3 (List.mem_of_getElem? (i := 105) (by decide +kernel))) rfl
theorem fx_maxC : Cond.code Lib.Math.max.name Lib.Math.max.code 2 (some .int) ∈ TT := TT_in (tp5 (List.mem_of_getElem? (i := 97) (by decide +kernel))) rfl
theorem fx_cpN : Cond.native arraycopyName ∈ TT := TT_in (tp2 (List.mem_of_getElem? (i := 153) (by decide +kernel))) rfl
theorem fx_cpS : Cond.static arraycopyName ∈ TT := TT_in (tp2 (List.mem_of_getElem? (i := 152) (by decide +kernel))) rfl
theorem fx_cpI : Cond.initialized "java/lang/System" ∈ TT := TT_in (tp1 (List.mem_of_getElem? (i := 13) (by decide +kernel))) rfl
theorem fx_acI : Cond.arrayClass .int ∈ TT := TT_in (tp1 (List.mem_of_getElem? (i := 95) (by decide +kernel))) rfl
theorem fx_acB : Cond.arrayClass .byte ∈ TT := TT_in (tp1 (List.mem_of_getElem? (i := 55) (by decide +kernel))) rfl
theorem fx_acJ : Cond.arrayClass .long ∈ TT := TT_in (tp1 (List.mem_of_getElem? (i := 94) (by decide +kernel))) rfl
