/-! throws and catches (printed by wip/whole/gen17.py) -/
theorem xa_t : ∀ w ∈ Bundle.throwableAtoms, goodWord w = true → vx_no w = true → w ∈ lw_tbl := List.forall_mem_cons.mpr ⟨fun _ _ => tp1 (List.mem_of_getElem? (i := 25) rfl), List.forall_mem_cons.mpr ⟨fun _ _ => tp3 (List.mem_of_getElem? (i := 5) rfl), List.forall_mem_cons.mpr ⟨fun _ _ => tp3 (List.mem_of_getElem? (i := 14) rfl), List.forall_mem_cons.mpr ⟨fun _ _ => tp3 (List.mem_of_getElem? (i := 19) rfl), List.forall_mem_cons.mpr ⟨fun _ _ => tp3 (List.mem_of_getElem? (i := 22) rfl), List.forall_mem_cons.mpr ⟨fun _ _ => tp3 (List.mem_of_getElem? (i := 24) rfl), List.forall_mem_cons.mpr ⟨fun _ _ => tp3 (List.mem_of_getElem? (i := 6) rfl), List.forall_mem_cons.mpr ⟨fun _ _ => tp3 (List.mem_of_getElem? (i := 7) rfl), List.forall_mem_cons.mpr ⟨fun _ _ => tp1 (List.mem_of_getElem? (i := 38) rfl), List.forall_mem_cons.mpr ⟨fun _ _ => tp1 (List.mem_of_getElem? (i := 39) rfl), List.forall_mem_cons.mpr ⟨fun _ _ => tp3 (List.mem_of_getElem? (i := 8) rfl), List.forall_mem_cons.mpr ⟨fun _ _ => tp3 (List.mem_of_getElem? (i := 13) rfl), List.forall_mem_cons.mpr ⟨fun _ _ => tp3 (List.mem_of_getElem? (i := 20) rfl), List.forall_mem_cons.mpr ⟨fun _ _ => tp3 (List.mem_of_getElem? (i := 40) rfl), List.forall_mem_cons.mpr ⟨fun _ _ => tp2 (List.mem_of_getElem? (i := 235) rfl), List.forall_mem_cons.mpr ⟨fun _ _ => tp3 (List.mem_of_getElem? (i := 41) rfl), List.forall_mem_cons.mpr ⟨fun _ _ => tp2 (List.mem_of_getElem? (i := 237) rfl), List.forall_mem_cons.mpr ⟨fun _ _ => tp3 (List.mem_of_getElem? (i := 42) rfl), List.forall_mem_cons.mpr ⟨fun _ _ => tp2 (List.mem_of_getElem? (i := 239) rfl), List.forall_mem_cons.mpr ⟨fun _ _ => tp3 (List.mem_of_getElem? (i := 9) rfl), List.forall_mem_cons.mpr ⟨fun h _ => absurd h (by decide), List.forall_mem_cons.mpr ⟨fun _ _ => tp3 (List.mem_of_getElem? (i := 11) rfl), List.forall_mem_cons.mpr ⟨fun h _ => absurd h (by decide), List.forall_mem_cons.mpr ⟨fun _ _ => tp3 (List.mem_of_getElem? (i := 1) rfl), fun _ h => absurd h List.not_mem_nil⟩⟩⟩⟩⟩⟩⟩⟩⟩⟩⟩⟩⟩⟩⟩⟩⟩⟩⟩⟩⟩⟩⟩⟩
theorem xa_s : ∀ w ∈ Bundle.throwableSAtoms, goodWord w = true → vx_no w = true → w ∈ lw_tbl := List.forall_mem_cons.mpr ⟨fun _ _ => tp3 (List.mem_of_getElem? (i := 36) rfl), List.forall_mem_cons.mpr ⟨fun _ _ => tp3 (List.mem_of_getElem? (i := 37) rfl), List.forall_mem_cons.mpr ⟨fun _ _ => tp3 (List.mem_of_getElem? (i := 39) rfl), List.forall_mem_cons.mpr ⟨fun _ _ => tp3 (List.mem_of_getElem? (i := 1) rfl), fun _ h => absurd h List.not_mem_nil⟩⟩⟩⟩
theorem xa_r : ∀ w ∈ Bundle.passSAtoms "java/lang/RuntimeException" "java/lang/Exception" 7 Bundle.six, goodWord w = true → vx_no w = true → w ∈ lw_tbl := List.forall_mem_cons.mpr ⟨fun _ _ => tp3 (List.mem_of_getElem? (i := 30) rfl), List.forall_mem_cons.mpr ⟨fun _ _ => tp3 (List.mem_of_getElem? (i := 31) rfl), List.forall_mem_cons.mpr ⟨fun _ _ => tp3 (List.mem_of_getElem? (i := 32) rfl), List.forall_mem_cons.mpr ⟨fun _ _ => tp3 (List.mem_of_getElem? (i := 33) rfl), List.forall_mem_cons.mpr ⟨fun h _ => absurd h (by decide), fun _ h => absurd h List.not_mem_nil⟩⟩⟩⟩⟩
theorem xa_e : ∀ w ∈ Bundle.passSAtoms "java/lang/Exception" Bundle.tN 7 Bundle.six, goodWord w = true → vx_no w = true → w ∈ lw_tbl := List.forall_mem_cons.mpr ⟨fun _ _ => tp3 (List.mem_of_getElem? (i := 33) rfl), List.forall_mem_cons.mpr ⟨fun _ _ => tp3 (List.mem_of_getElem? (i := 34) rfl), List.forall_mem_cons.mpr ⟨fun _ _ => tp3 (List.mem_of_getElem? (i := 35) rfl), List.forall_mem_cons.mpr ⟨fun _ _ => tp3 (List.mem_of_getElem? (i := 36) rfl), List.forall_mem_cons.mpr ⟨fun h _ => absurd h (by decide), fun _ h => absurd h List.not_mem_nil⟩⟩⟩⟩⟩
def sxn : ByteArray := ⟨#[0x2a, 0x2b, 0xb7, 0, 13, 0xb1]⟩
theorem sxn_0 : decode sxn 0 = .ok (.aload_n 0, 1) := by decide +kernel
theorem sxn_1 : decode sxn 1 = .ok (.aload_n 1, 1) := by decide +kernel
theorem sxn_2 : decode sxn 2 = .ok (.invokespecial 13, 3) := by decide +kernel
theorem sxn_5 : decode sxn 5 = .ok (.return_, 1) := by decide +kernel
def xsx (c : Nat) : Nat × ByteArray := cond (decide (c = 3)) (13, sxn) (7, Bundle.six)
theorem xsx_ok (c : Nat) : decode (xsx c).2 0 = .ok (.aload_n 0, 1) ∧ decode (xsx c).2 1 = .ok (.aload_n 1, 1) ∧ decode (xsx c).2 2 = .ok (.invokespecial (xsx c).1, 3) ∧ decode (xsx c).2 5 = .ok (.return_, 1) := by
  unfold xsx
  cases decide (c = 3)
  · exact ⟨Bundle.six_0, Bundle.six_1, Bundle.six_2, Bundle.six_5⟩
  · exact ⟨sxn_0, sxn_1, sxn_2, sxn_5⟩
def x_at (own : String) (ic : Nat) (X : String) (c : Nat) (names : List String) : List Cond := (Bundle.ownAtomsX own ic X (xsx c).1 (xsx c).2 names).filter vx_no
theorem xa_p0 : ∀ w ∈ Bundle.passSAtoms "java/lang/IndexOutOfBoundsException" "java/lang/RuntimeException" 7 Bundle.six, goodWord w = true → vx_no w = true → w ∈ lw_tbl := List.forall_mem_cons.mpr ⟨fun _ _ => tp3 (List.mem_of_getElem? (i := 27) rfl), List.forall_mem_cons.mpr ⟨fun _ _ => tp3 (List.mem_of_getElem? (i := 28) rfl), List.forall_mem_cons.mpr ⟨fun _ _ => tp3 (List.mem_of_getElem? (i := 29) rfl), List.forall_mem_cons.mpr ⟨fun _ _ => tp3 (List.mem_of_getElem? (i := 30) rfl), List.forall_mem_cons.mpr ⟨fun h _ => absurd h (by decide), fun _ h => absurd h List.not_mem_nil⟩⟩⟩⟩⟩
theorem xa_o0 : ∀ w ∈ ([.methodLink RX11 218 (Bundle.initS "java/lang/IndexOutOfBoundsException"), .instantiable "java/lang/IndexOutOfBoundsException" 6, .castable "java/lang/IndexOutOfBoundsException" "java/lang/IndexOutOfBoundsException", .selects "java/lang/IndexOutOfBoundsException" Bundle.tFill0 Bundle.tFill0, .selects "java/lang/IndexOutOfBoundsException" Bundle.tFill Bundle.tFill, .lays "java/lang/IndexOutOfBoundsException" Bundle.tN "cause" "Ljava/lang/Throwable;", .lays "java/lang/IndexOutOfBoundsException" Bundle.tN "stackTrace" Bundle.steD, .lays "java/lang/IndexOutOfBoundsException" Bundle.tN "suppressedExceptions" Bundle.listD, .lays "java/lang/IndexOutOfBoundsException" Bundle.tN "detailMessage" "Ljava/lang/String;", .isRef (.static Bundle.tN "UNASSIGNED_STACK" Bundle.steD), .isRef (.static Bundle.tN "SUPPRESSED_SENTINEL" Bundle.listD), .fieldLink Bundle.tN 198 Bundle.tN "backtrace" "Ljava/lang/Object;", .lays Bundle.tN Bundle.tN "backtrace" "Ljava/lang/Object;", .lays "java/lang/IndexOutOfBoundsException" Bundle.tN "backtrace" "Ljava/lang/Object;"] : List Cond), goodWord w = true → vx_no w = true → w ∈ lw_tbl := List.forall_mem_cons.mpr ⟨fun _ _ => tp3 (List.mem_of_getElem? (i := 26) rfl), List.forall_mem_cons.mpr ⟨fun _ _ => tp2 (List.mem_of_getElem? (i := 224) rfl), List.forall_mem_cons.mpr ⟨fun h _ => absurd h (by decide), List.forall_mem_cons.mpr ⟨fun _ _ => tp2 (List.mem_of_getElem? (i := 232) rfl), List.forall_mem_cons.mpr ⟨fun _ _ => tp2 (List.mem_of_getElem? (i := 233) rfl), List.forall_mem_cons.mpr ⟨fun _ _ => tp2 (List.mem_of_getElem? (i := 234) rfl), List.forall_mem_cons.mpr ⟨fun _ _ => tp2 (List.mem_of_getElem? (i := 236) rfl), List.forall_mem_cons.mpr ⟨fun _ _ => tp2 (List.mem_of_getElem? (i := 238) rfl), List.forall_mem_cons.mpr ⟨fun _ _ => tp3 (List.mem_of_getElem? (i := 0) rfl), List.forall_mem_cons.mpr ⟨fun _ h => absurd h (by decide +kernel), List.forall_mem_cons.mpr ⟨fun _ h => absurd h (by decide +kernel), List.forall_mem_cons.mpr ⟨fun _ _ => tp3 (List.mem_of_getElem? (i := 4) rfl), List.forall_mem_cons.mpr ⟨fun _ _ => tp3 (List.mem_of_getElem? (i := 3) rfl), List.forall_mem_cons.mpr ⟨fun _ _ => tp3 (List.mem_of_getElem? (i := 2) rfl), fun _ h => absurd h List.not_mem_nil⟩⟩⟩⟩⟩⟩⟩⟩⟩⟩⟩⟩⟩⟩
theorem xg_0 : ∀ w ∈ (x_at RX11 218 (exn 0) 0 ["java/lang/RuntimeException", "java/lang/Exception"]).filter goodWord, w ∈ lw_tbl := fun w hw => by
  obtain ⟨h1, h2⟩ := List.mem_filter.mp hw
  obtain ⟨h1, h3⟩ := List.mem_filter.mp h1
  rcases List.mem_append.mp h1 with h | h
  · rcases List.mem_append.mp h with h | h
    · rcases List.mem_append.mp h with h | h
      · exact xa_t w h h2 h3
      · exact xa_s w h h2 h3
    · rcases List.mem_append.mp h with h | h
      · exact xa_p0 w h h2 h3
      · rcases List.mem_append.mp h with h | h
        · exact xa_r w h h2 h3
        · exact xa_e w h h2 h3
  · exact xa_o0 w h h2 h3
theorem xa_p1 : ∀ w ∈ Bundle.passSAtoms "java/lang/IllegalArgumentException" "java/lang/RuntimeException" 7 Bundle.six, goodWord w = true → vx_no w = true → w ∈ lw_tbl := List.forall_mem_cons.mpr ⟨fun _ _ => tp3 (List.mem_of_getElem? (i := 87) rfl), List.forall_mem_cons.mpr ⟨fun _ _ => tp3 (List.mem_of_getElem? (i := 88) rfl), List.forall_mem_cons.mpr ⟨fun _ _ => tp3 (List.mem_of_getElem? (i := 89) rfl), List.forall_mem_cons.mpr ⟨fun _ _ => tp3 (List.mem_of_getElem? (i := 30) rfl), List.forall_mem_cons.mpr ⟨fun h _ => absurd h (by decide), fun _ h => absurd h List.not_mem_nil⟩⟩⟩⟩⟩
theorem xa_o1 : ∀ w ∈ ([.methodLink RX11 255 (Bundle.initS "java/lang/IllegalArgumentException"), .instantiable "java/lang/IllegalArgumentException" 6, .castable "java/lang/IllegalArgumentException" "java/lang/IllegalArgumentException", .selects "java/lang/IllegalArgumentException" Bundle.tFill0 Bundle.tFill0, .selects "java/lang/IllegalArgumentException" Bundle.tFill Bundle.tFill, .lays "java/lang/IllegalArgumentException" Bundle.tN "cause" "Ljava/lang/Throwable;", .lays "java/lang/IllegalArgumentException" Bundle.tN "stackTrace" Bundle.steD, .lays "java/lang/IllegalArgumentException" Bundle.tN "suppressedExceptions" Bundle.listD, .lays "java/lang/IllegalArgumentException" Bundle.tN "detailMessage" "Ljava/lang/String;", .isRef (.static Bundle.tN "UNASSIGNED_STACK" Bundle.steD), .isRef (.static Bundle.tN "SUPPRESSED_SENTINEL" Bundle.listD), .fieldLink Bundle.tN 198 Bundle.tN "backtrace" "Ljava/lang/Object;", .lays Bundle.tN Bundle.tN "backtrace" "Ljava/lang/Object;", .lays "java/lang/IllegalArgumentException" Bundle.tN "backtrace" "Ljava/lang/Object;"] : List Cond), goodWord w = true → vx_no w = true → w ∈ lw_tbl := List.forall_mem_cons.mpr ⟨fun _ _ => tp3 (List.mem_of_getElem? (i := 86) rfl), List.forall_mem_cons.mpr ⟨fun _ _ => tp3 (List.mem_of_getElem? (i := 77) rfl), List.forall_mem_cons.mpr ⟨fun h _ => absurd h (by decide), List.forall_mem_cons.mpr ⟨fun _ _ => tp3 (List.mem_of_getElem? (i := 79) rfl), List.forall_mem_cons.mpr ⟨fun _ _ => tp3 (List.mem_of_getElem? (i := 16) rfl), List.forall_mem_cons.mpr ⟨fun _ _ => tp3 (List.mem_of_getElem? (i := 80) rfl), List.forall_mem_cons.mpr ⟨fun _ _ => tp3 (List.mem_of_getElem? (i := 81) rfl), List.forall_mem_cons.mpr ⟨fun _ _ => tp3 (List.mem_of_getElem? (i := 82) rfl), List.forall_mem_cons.mpr ⟨fun _ _ => tp3 (List.mem_of_getElem? (i := 83) rfl), List.forall_mem_cons.mpr ⟨fun _ h => absurd h (by decide +kernel), List.forall_mem_cons.mpr ⟨fun _ h => absurd h (by decide +kernel), List.forall_mem_cons.mpr ⟨fun _ _ => tp3 (List.mem_of_getElem? (i := 4) rfl), List.forall_mem_cons.mpr ⟨fun _ _ => tp3 (List.mem_of_getElem? (i := 3) rfl), List.forall_mem_cons.mpr ⟨fun _ _ => tp3 (List.mem_of_getElem? (i := 84) rfl), fun _ h => absurd h List.not_mem_nil⟩⟩⟩⟩⟩⟩⟩⟩⟩⟩⟩⟩⟩⟩
theorem xg_1 : ∀ w ∈ (x_at RX11 255 (exn 1) 1 ["java/lang/RuntimeException", "java/lang/Exception"]).filter goodWord, w ∈ lw_tbl := fun w hw => by
  obtain ⟨h1, h2⟩ := List.mem_filter.mp hw
  obtain ⟨h1, h3⟩ := List.mem_filter.mp h1
  rcases List.mem_append.mp h1 with h | h
  · rcases List.mem_append.mp h with h | h
    · rcases List.mem_append.mp h with h | h
      · exact xa_t w h h2 h3
      · exact xa_s w h h2 h3
    · rcases List.mem_append.mp h with h | h
      · exact xa_p1 w h h2 h3
      · rcases List.mem_append.mp h with h | h
        · exact xa_r w h h2 h3
        · exact xa_e w h h2 h3
  · exact xa_o1 w h h2 h3
theorem xa_p2 : ∀ w ∈ Bundle.passSAtoms "java/lang/IllegalStateException" "java/lang/RuntimeException" 7 Bundle.six, goodWord w = true → vx_no w = true → w ∈ lw_tbl := List.forall_mem_cons.mpr ⟨fun _ _ => tp4 (List.mem_of_getElem? (i := 4) rfl), List.forall_mem_cons.mpr ⟨fun _ _ => tp4 (List.mem_of_getElem? (i := 5) rfl), List.forall_mem_cons.mpr ⟨fun _ _ => tp4 (List.mem_of_getElem? (i := 6) rfl), List.forall_mem_cons.mpr ⟨fun _ _ => tp3 (List.mem_of_getElem? (i := 30) rfl), List.forall_mem_cons.mpr ⟨fun h _ => absurd h (by decide), fun _ h => absurd h List.not_mem_nil⟩⟩⟩⟩⟩
theorem xa_o2 : ∀ w ∈ ([.methodLink RX11 358 (Bundle.initS "java/lang/IllegalStateException"), .instantiable "java/lang/IllegalStateException" 6, .castable "java/lang/IllegalStateException" "java/lang/IllegalStateException", .selects "java/lang/IllegalStateException" Bundle.tFill0 Bundle.tFill0, .selects "java/lang/IllegalStateException" Bundle.tFill Bundle.tFill, .lays "java/lang/IllegalStateException" Bundle.tN "cause" "Ljava/lang/Throwable;", .lays "java/lang/IllegalStateException" Bundle.tN "stackTrace" Bundle.steD, .lays "java/lang/IllegalStateException" Bundle.tN "suppressedExceptions" Bundle.listD, .lays "java/lang/IllegalStateException" Bundle.tN "detailMessage" "Ljava/lang/String;", .isRef (.static Bundle.tN "UNASSIGNED_STACK" Bundle.steD), .isRef (.static Bundle.tN "SUPPRESSED_SENTINEL" Bundle.listD), .fieldLink Bundle.tN 198 Bundle.tN "backtrace" "Ljava/lang/Object;", .lays Bundle.tN Bundle.tN "backtrace" "Ljava/lang/Object;", .lays "java/lang/IllegalStateException" Bundle.tN "backtrace" "Ljava/lang/Object;"] : List Cond), goodWord w = true → vx_no w = true → w ∈ lw_tbl := List.forall_mem_cons.mpr ⟨fun _ _ => tp4 (List.mem_of_getElem? (i := 3) rfl), List.forall_mem_cons.mpr ⟨fun _ _ => tp3 (List.mem_of_getElem? (i := 234) rfl), List.forall_mem_cons.mpr ⟨fun h _ => absurd h (by decide), List.forall_mem_cons.mpr ⟨fun _ _ => tp3 (List.mem_of_getElem? (i := 236) rfl), List.forall_mem_cons.mpr ⟨fun _ _ => tp3 (List.mem_of_getElem? (i := 17) rfl), List.forall_mem_cons.mpr ⟨fun _ _ => tp3 (List.mem_of_getElem? (i := 237) rfl), List.forall_mem_cons.mpr ⟨fun _ _ => tp3 (List.mem_of_getElem? (i := 238) rfl), List.forall_mem_cons.mpr ⟨fun _ _ => tp3 (List.mem_of_getElem? (i := 239) rfl), List.forall_mem_cons.mpr ⟨fun _ _ => tp4 (List.mem_of_getElem? (i := 0) rfl), List.forall_mem_cons.mpr ⟨fun _ h => absurd h (by decide +kernel), List.forall_mem_cons.mpr ⟨fun _ h => absurd h (by decide +kernel), List.forall_mem_cons.mpr ⟨fun _ _ => tp3 (List.mem_of_getElem? (i := 4) rfl), List.forall_mem_cons.mpr ⟨fun _ _ => tp3 (List.mem_of_getElem? (i := 3) rfl), List.forall_mem_cons.mpr ⟨fun _ _ => tp4 (List.mem_of_getElem? (i := 1) rfl), fun _ h => absurd h List.not_mem_nil⟩⟩⟩⟩⟩⟩⟩⟩⟩⟩⟩⟩⟩⟩
theorem xg_2 : ∀ w ∈ (x_at RX11 358 (exn 2) 2 ["java/lang/RuntimeException", "java/lang/Exception"]).filter goodWord, w ∈ lw_tbl := fun w hw => by
  obtain ⟨h1, h2⟩ := List.mem_filter.mp hw
  obtain ⟨h1, h3⟩ := List.mem_filter.mp h1
  rcases List.mem_append.mp h1 with h | h
  · rcases List.mem_append.mp h with h | h
    · rcases List.mem_append.mp h with h | h
      · exact xa_t w h h2 h3
      · exact xa_s w h h2 h3
    · rcases List.mem_append.mp h with h | h
      · exact xa_p2 w h h2 h3
      · rcases List.mem_append.mp h with h | h
        · exact xa_r w h h2 h3
        · exact xa_e w h h2 h3
  · exact xa_o2 w h h2 h3
theorem xa_p3 : ∀ w ∈ Bundle.passSAtoms "java/util/NoSuchElementException" "java/lang/RuntimeException" 13 sxn, goodWord w = true → vx_no w = true → w ∈ lw_tbl := List.forall_mem_cons.mpr ⟨fun _ _ => tp6 (List.mem_of_getElem? (i := 145) rfl), List.forall_mem_cons.mpr ⟨fun _ _ => tp6 (List.mem_of_getElem? (i := 146) rfl), List.forall_mem_cons.mpr ⟨fun _ _ => tp6 (List.mem_of_getElem? (i := 147) rfl), List.forall_mem_cons.mpr ⟨fun _ _ => tp3 (List.mem_of_getElem? (i := 30) rfl), List.forall_mem_cons.mpr ⟨fun h _ => absurd h (by decide), fun _ h => absurd h List.not_mem_nil⟩⟩⟩⟩⟩
theorem xa_o3 : ∀ w ∈ ([.methodLink RX11 269 (Bundle.initS "java/util/NoSuchElementException"), .instantiable "java/util/NoSuchElementException" 6, .castable "java/util/NoSuchElementException" "java/util/NoSuchElementException", .selects "java/util/NoSuchElementException" Bundle.tFill0 Bundle.tFill0, .selects "java/util/NoSuchElementException" Bundle.tFill Bundle.tFill, .lays "java/util/NoSuchElementException" Bundle.tN "cause" "Ljava/lang/Throwable;", .lays "java/util/NoSuchElementException" Bundle.tN "stackTrace" Bundle.steD, .lays "java/util/NoSuchElementException" Bundle.tN "suppressedExceptions" Bundle.listD, .lays "java/util/NoSuchElementException" Bundle.tN "detailMessage" "Ljava/lang/String;", .isRef (.static Bundle.tN "UNASSIGNED_STACK" Bundle.steD), .isRef (.static Bundle.tN "SUPPRESSED_SENTINEL" Bundle.listD), .fieldLink Bundle.tN 198 Bundle.tN "backtrace" "Ljava/lang/Object;", .lays Bundle.tN Bundle.tN "backtrace" "Ljava/lang/Object;", .lays "java/util/NoSuchElementException" Bundle.tN "backtrace" "Ljava/lang/Object;"] : List Cond), goodWord w = true → vx_no w = true → w ∈ lw_tbl := List.forall_mem_cons.mpr ⟨fun _ _ => tp6 (List.mem_of_getElem? (i := 144) rfl), List.forall_mem_cons.mpr ⟨fun _ _ => tp6 (List.mem_of_getElem? (i := 135) rfl), List.forall_mem_cons.mpr ⟨fun h _ => absurd h (by decide), List.forall_mem_cons.mpr ⟨fun _ _ => tp6 (List.mem_of_getElem? (i := 137) rfl), List.forall_mem_cons.mpr ⟨fun _ _ => tp3 (List.mem_of_getElem? (i := 18) rfl), List.forall_mem_cons.mpr ⟨fun _ _ => tp6 (List.mem_of_getElem? (i := 138) rfl), List.forall_mem_cons.mpr ⟨fun _ _ => tp6 (List.mem_of_getElem? (i := 139) rfl), List.forall_mem_cons.mpr ⟨fun _ _ => tp6 (List.mem_of_getElem? (i := 140) rfl), List.forall_mem_cons.mpr ⟨fun _ _ => tp6 (List.mem_of_getElem? (i := 141) rfl), List.forall_mem_cons.mpr ⟨fun _ h => absurd h (by decide +kernel), List.forall_mem_cons.mpr ⟨fun _ h => absurd h (by decide +kernel), List.forall_mem_cons.mpr ⟨fun _ _ => tp3 (List.mem_of_getElem? (i := 4) rfl), List.forall_mem_cons.mpr ⟨fun _ _ => tp3 (List.mem_of_getElem? (i := 3) rfl), List.forall_mem_cons.mpr ⟨fun _ _ => tp6 (List.mem_of_getElem? (i := 142) rfl), fun _ h => absurd h List.not_mem_nil⟩⟩⟩⟩⟩⟩⟩⟩⟩⟩⟩⟩⟩⟩
theorem xg_3 : ∀ w ∈ (x_at RX11 269 (exn 3) 3 ["java/lang/RuntimeException", "java/lang/Exception"]).filter goodWord, w ∈ lw_tbl := fun w hw => by
  obtain ⟨h1, h2⟩ := List.mem_filter.mp hw
  obtain ⟨h1, h3⟩ := List.mem_filter.mp h1
  rcases List.mem_append.mp h1 with h | h
  · rcases List.mem_append.mp h with h | h
    · rcases List.mem_append.mp h with h | h
      · exact xa_t w h h2 h3
      · exact xa_s w h h2 h3
    · rcases List.mem_append.mp h with h | h
      · exact xa_p3 w h h2 h3
      · rcases List.mem_append.mp h with h | h
        · exact xa_r w h h2 h3
        · exact xa_e w h h2 h3
  · exact xa_o3 w h h2 h3
theorem xk_0 : Cond.classLink RX11 214 (exn 0) ∈ TT := TT_in (tp2 (List.mem_of_getElem? (i := 223) (by decide +kernel))) rfl
theorem xi_0 : Cond.initialized (exn 0) ∈ TT := TT_in (tp1 (List.mem_of_getElem? (i := 28) (by decide +kernel))) rfl
theorem xb_0 : ∀ w ∈ (x_at RX11 218 (exn 0) 0 ["java/lang/RuntimeException", "java/lang/Exception"]).filter (fun w => !goodWord w), w ∈ [Cond.castable (exn 0) (exn 0), Cond.declares (Bundle.initS "java/lang/RuntimeException"), Cond.declares (Bundle.initS "java/lang/Exception"), Cond.declares (Bundle.initS "java/lang/Throwable")] := by decide +kernel
theorem xo_0 : ∀ w ∈ Cond.classLink RX11 214 (exn 0) :: Cond.initialized (exn 0) :: x_at RX11 218 (exn 0) 0 ["java/lang/RuntimeException", "java/lang/Exception"], vx_ot w = true := by decide +kernel
theorem xk_1 : Cond.classLink RX11 253 (exn 1) ∈ TT := TT_in (tp3 (List.mem_of_getElem? (i := 76) (by decide +kernel))) rfl
theorem xi_1 : Cond.initialized (exn 1) ∈ TT := TT_in (tp1 (List.mem_of_getElem? (i := 29) (by decide +kernel))) rfl
theorem xb_1 : ∀ w ∈ (x_at RX11 255 (exn 1) 1 ["java/lang/RuntimeException", "java/lang/Exception"]).filter (fun w => !goodWord w), w ∈ [Cond.castable (exn 1) (exn 1), Cond.declares (Bundle.initS "java/lang/RuntimeException"), Cond.declares (Bundle.initS "java/lang/Exception"), Cond.declares (Bundle.initS "java/lang/Throwable")] := by decide +kernel
theorem xo_1 : ∀ w ∈ Cond.classLink RX11 253 (exn 1) :: Cond.initialized (exn 1) :: x_at RX11 255 (exn 1) 1 ["java/lang/RuntimeException", "java/lang/Exception"], vx_ot w = true := by decide +kernel
theorem xk_2 : Cond.classLink RX11 354 (exn 2) ∈ TT := TT_in (tp3 (List.mem_of_getElem? (i := 233) (by decide +kernel))) rfl
theorem xi_2 : Cond.initialized (exn 2) ∈ TT := TT_in (tp1 (List.mem_of_getElem? (i := 30) (by decide +kernel))) rfl
theorem xb_2 : ∀ w ∈ (x_at RX11 358 (exn 2) 2 ["java/lang/RuntimeException", "java/lang/Exception"]).filter (fun w => !goodWord w), w ∈ [Cond.castable (exn 2) (exn 2), Cond.declares (Bundle.initS "java/lang/RuntimeException"), Cond.declares (Bundle.initS "java/lang/Exception"), Cond.declares (Bundle.initS "java/lang/Throwable")] := by decide +kernel
theorem xo_2 : ∀ w ∈ Cond.classLink RX11 354 (exn 2) :: Cond.initialized (exn 2) :: x_at RX11 358 (exn 2) 2 ["java/lang/RuntimeException", "java/lang/Exception"], vx_ot w = true := by decide +kernel
theorem xk_3 : Cond.classLink RX11 265 (exn 3) ∈ TT := TT_in (tp6 (List.mem_of_getElem? (i := 134) (by decide +kernel))) rfl
theorem xi_3 : Cond.initialized (exn 3) ∈ TT := TT_in (tp1 (List.mem_of_getElem? (i := 31) (by decide +kernel))) rfl
theorem xb_3 : ∀ w ∈ (x_at RX11 269 (exn 3) 3 ["java/lang/RuntimeException", "java/lang/Exception"]).filter (fun w => !goodWord w), w ∈ [Cond.castable (exn 3) (exn 3), Cond.declares (Bundle.initS "java/lang/RuntimeException"), Cond.declares (Bundle.initS "java/lang/Exception"), Cond.declares (Bundle.initS "java/lang/Throwable")] := by decide +kernel
theorem xo_3 : ∀ w ∈ Cond.classLink RX11 265 (exn 3) :: Cond.initialized (exn 3) :: x_at RX11 269 (exn 3) 3 ["java/lang/RuntimeException", "java/lang/Exception"], vx_ot w = true := by decide +kernel
def xcp : List (Nat × Nat) := [(214, 218), (253, 255), (354, 358), (265, 269)]
theorem xcp_ok : ∀ c, c < 4 → Cond.classLink RX11 (xcp.getD c (0, 0)).1 (exn c) ∈ TT ∧ Cond.initialized (exn c) ∈ TT ∧ (∀ w ∈ (x_at RX11 (xcp.getD c (0, 0)).2 (exn c) c ["java/lang/RuntimeException", "java/lang/Exception"]).filter goodWord, w ∈ lw_tbl) ∧
    (∀ w ∈ (x_at RX11 (xcp.getD c (0, 0)).2 (exn c) c ["java/lang/RuntimeException", "java/lang/Exception"]).filter (fun w => !goodWord w), w ∈ [Cond.castable (exn c) (exn c), Cond.declares (Bundle.initS "java/lang/RuntimeException"), Cond.declares (Bundle.initS "java/lang/Exception"), Cond.declares (Bundle.initS "java/lang/Throwable")]) ∧
    (∀ w ∈ Cond.classLink RX11 (xcp.getD c (0, 0)).1 (exn c) :: Cond.initialized (exn c) :: x_at RX11 (xcp.getD c (0, 0)).2 (exn c) c ["java/lang/RuntimeException", "java/lang/Exception"], vx_ot w = true) ∧ Bundle.fit (exn c) = true
  | 0, _ => ⟨xk_0, xi_0, xg_0, xb_0, xo_0, by decide +kernel⟩
  | 1, _ => ⟨xk_1, xi_1, xg_1, xb_1, xo_1, by decide +kernel⟩
  | 2, _ => ⟨xk_2, xi_2, xg_2, xb_2, xo_2, by decide +kernel⟩
  | 3, _ => ⟨xk_3, xi_3, xg_3, xb_3, xo_3, by decide +kernel⟩
  | c + 4, h => absurd h (by omega)
theorem x_own {args : Array Value} {s : State} {L : List Cond} (h1 : ∀ w ∈ L.filter vx_no, w.before args s = true)
    (hU : (Cond.isRef (.static Bundle.tN "UNASSIGNED_STACK" Bundle.steD)).before args s = true) (hN : (Cond.isRef (.static Bundle.tN "SUPPRESSED_SENTINEL" Bundle.listD)).before args s = true)
    (hU' : (Cond.laysStatic Bundle.tN "UNASSIGNED_STACK" Bundle.steD).before args s = true) (hN' : (Cond.laysStatic Bundle.tN "SUPPRESSED_SENTINEL" Bundle.listD).before args s = true) : ∀ w ∈ L, w.before args s = true := vx_own h1 hU hN hU' hN'
section XTS
variable {p : Program} {l : Launch} {e : Env} {R : Room} {s : State} {m₀ : MethodId} {args : Array Value} {below : List Frame} {meth : Method} {c : Code} {W : State} {locs : List Loc} {cells slots : Nat}
set_option maxHeartbeats 1000000 in
/-- the constructor of an exception over a text, then athrow; it follows Stand.ctorThrowS of the library, with the super's index and the code left open -/
theorem x_ctor (X : Stand p l e R s m₀ args below meth c W locs cells slots) (hexec : p.tables.exec = Jvm.exec) (htr : e.platform.stackTraces = false) {own cls : String} {names : List String} {ic ix : Nat} {rx : ByteArray}
    (x0 : decode rx 0 = .ok (.aload_n 0, 1)) (x1 : decode rx 1 = .ok (.aload_n 1, 1)) (x2 : decode rx 2 = .ok (.invokespecial ix, 3)) (x5 : decode rx 5 = .ok (.return_, 1))
    (hown : s.vm.findClass own = some m₀.cls) (hcls : Bundle.fit cls = true) (hnames : ∀ n ∈ names, Bundle.fit n = true) (h : ∀ a ∈ Bundle.ownAtomsX own ic cls ix rx names, a.before args s = true)
    (hlocs : ∀ x ∈ locs, ∀ cell, s.heap[x.base]? = some cell → cell.vm.isStatics = false)
    {a : Addr} {cX : ClassId} {kX : Class} (hfoundX : s.vm.findClass cls = some cX) (hkX : s.vm.classes[cX]? = some kX) (hcell : W.heap[a]? = some (freshCell cX kX)) (hnew : s.heap.size ≤ a) {msg : Value} (hmsg : msg.isRef = true)
    {g : JFrame} (hg : g.method = m₀) (hsize : g.locals.size = c.maxLocals) (hlocked : g.locked = none) (hentered : g.entered = []) {rest : List Value} (hstack : g.stack = msg :: .ref a :: .ref a :: rest)
    (hd6 : decode c.code g.pc = .ok (.invokespecial ic, 3)) (hd9 : decode c.code (g.pc + 3) = .ok (.athrow, 1)) (hout : ∀ x ∈ c.exceptionTable.toList, covers x (g.pc + 3) = false)
    (hRframes : names.length + 3 < R.frames) (hRlocals : 2 * g.monitorRoom + ((Value.ref a :: rest).map fun v => v.category).sum + (13 * (names.length + 1) + 42) ≤ R.locals) (hlocks : meth.locks = false) :
    ∃ U : State, Steps p.tables e below (W.setTop g) U ∧ U.status = .running ∧ Ended U below (.threw a) ∧ s.WarmedH U.vm ∧ s.sameButNew ({ U with vm := s.vm } : State) locs cells slots ∧ ∃ ce, U.heap[a]? = some ce ∧ ce.vm = .none ∧ s.vm.findClass cls = some ce.cls := by
  have howns : e.platform.frameOwnsMonitors = true := by rw [X.admits.platform]
  have hfin : e.platform.finalization = false := by rw [X.admits.platform]
  have hpl : e.platform.magicAccessors = ({} : Platform).magicAccessors := by rw [X.admits.platform]
  have a' : ∀ x, x ∈ Bundle.ownAtomsX own ic cls ix rx names → x.holds args s none s [] = true := fun x hx => h x hx
  obtain ⟨T, Z0, L, -, Y⟩ := ThrowableC.of_atoms (args := args) howns hfin hpl (fun x hx => h x (by simp [Bundle.ownAtomsX, hx]))
  obtain ⟨Z, M, LZ, LM, hnZ⟩ := Init0T.ofS_atoms (args := args) hpl L Y (fun x hx => h x (by simp [Bundle.ownAtomsX, hx]))
  obtain ⟨P1, Ps, hlen, L1, hL, hP1m, hlink1, hlink⟩ := Bundle.chainSX (args := args) hpl hnZ x0 x1 x2 x5 names cls hcls hnames (fun x hx => h x (by simp [Bundle.ownAtomsX, hx]))
  have hfound : s.vm.findClass cls = some P1.m.cls := findClass_of_methodNamed hP1m
  cases Option.some.inj (hfoundX.symm.trans hfound)
  obtain ⟨c1, kX', hc1, hk, hord, -, -, hn6⟩ := Cond.instantiable_spec (a' (.instantiable cls 6) (by simp [Bundle.ownAtomsX]))
  cases Option.some.inj (hc1.symm.trans hfound)
  cases Option.some.inj (hkX.symm.trans hk)
  have hsel0 : selectMethod e.platform s.vm P1.m.cls T.fill0 = .method T.fill0 := by
    obtain ⟨c2, r2, m2, q1, q2, q3, q4, -⟩ := Cond.selects_spec (a' (.selects cls Bundle.tFill0 Bundle.tFill0) (by simp [Bundle.ownAtomsX]))
    cases Option.some.inj (q1.symm.trans hfound)
    cases Option.some.inj (q2.symm.trans (State.methodFound?_of_named Y.fill0 (by decide)))
    cases Option.some.inj (q3.symm.trans Y.fill0)
    rw [Launch.admits_selectMethod X.admits]; exact q4
  have hselF : selectMethod e.platform s.vm P1.m.cls T.fill = .method T.fill := by
    obtain ⟨c2, r2, m2, q1, q2, q3, q4, -⟩ := Cond.selects_spec (a' (.selects cls Bundle.tFill Bundle.tFill) (by simp [Bundle.ownAtomsX]))
    cases Option.some.inj (q1.symm.trans hfound)
    cases Option.some.inj (q2.symm.trans (State.methodFound?_of_named Y.fill (by decide)))
    cases Option.some.inj (q3.symm.trans Y.fill)
    rw [Launch.admits_selectMethod X.admits]; exact q4
  obtain ⟨cellS0, hcS0, hiss⟩ := Y.statics
  obtain ⟨u0, hu0⟩ := Cond.staticRefV Y.unassigned L.unassignedStatic L.statics hcS0 hiss (a' (.isRef (.static Bundle.tN "UNASSIGNED_STACK" Bundle.steD)) (by simp [Bundle.ownAtomsX]))
  obtain ⟨sen, hsen⟩ := Cond.staticRefV Y.sentinel L.sentinelStatic L.statics hcS0 hiss (a' (.isRef (.static Bundle.tN "SUPPRESSED_SENTINEL" Bundle.listD)) (by simp [Bundle.ownAtomsX]))
  obtain ⟨ci198, i198, fB, hk198, hg198, ha198, hsB, -, hnB, htB, hffB⟩ := Cond.ownField (t := .object "java/lang/Object") Y.found L.cls (by decide +kernel) (a' (.fieldLink Bundle.tN 198 Bundle.tN "backtrace" "Ljava/lang/Object;") (by simp [Bundle.ownAtomsX])) (a' (.lays Bundle.tN Bundle.tN "backtrace" "Ljava/lang/Object;") (by simp [Bundle.ownAtomsX])) e.platform hpl
  obtain ⟨cellS, hcS', heS, -, hkeep⟩ := X.same.2.2.2.2.2 T.aS cellS0 hcS0
  have hcellS : W.heap[T.aS]? = some cellS := hcS'
  have hout' : ∀ i, (⟨T.aS, i⟩ : Loc) ∉ locs := fun i hmem => by
    have := hlocs _ hmem cellS0 hcS0
    rw [hiss] at this; cases this
  have hknownS : cellS.vm ≠ .unknown := by
    rw [heS]; intro hu
    rw [show cellS0.vm = .unknown from hu] at hiss
    cases hiss
  have hneS : T.aS ≠ a := Nat.ne_of_lt (Nat.lt_of_lt_of_le (Array.getElem?_eq_some_iff.mp hcS0).1 hnew)
  obtain ⟨iM, hffM⟩ := Y.msg
  obtain ⟨tyC, dC, hdC, hdnC⟩ := Cond.laysAt hfound hk Y.cause (a' (.lays cls Bundle.tN "cause" "Ljava/lang/Throwable;") (by simp [Bundle.ownAtomsX]))
  obtain ⟨tyS, dS, hdS, hdnS⟩ := Cond.laysAt hfound hk Y.stack (a' (.lays cls Bundle.tN "stackTrace" Bundle.steD) (by simp [Bundle.ownAtomsX]))
  obtain ⟨tyP, dP, hdP, hdnP⟩ := Cond.laysAt hfound hk Y.supp (a' (.lays cls Bundle.tN "suppressedExceptions" Bundle.listD) (by simp [Bundle.ownAtomsX]))
  obtain ⟨tyM, dM, hdM, hdnM⟩ := Cond.laysAt hfound hk hffM (a' (.lays cls Bundle.tN "detailMessage" "Ljava/lang/String;") (by simp [Bundle.ownAtomsX]))
  obtain ⟨tyB, dB, hdB, hdnB⟩ := Cond.laysAt hfound hk hffB (a' (.lays cls Bundle.tN "backtrace" "Ljava/lang/Object;") (by simp [Bundle.ownAtomsX]))
  have bC := Cond.laysApart hdB hdC hdnB hdnC (by rw [hnB, Y.causeName]; decide)
  have bS := Cond.laysApart hdB hdS hdnB hdnS (by rw [hnB, Y.stackName]; decide)
  have bP := Cond.laysApart hdB hdP hdnB hdnP (by rw [hnB, Y.suppName]; decide)
  have hskip : SkipFacts T e.platform s (fun u => u) u0 ((preparedCellV T.toThrowableT (freshCell P1.m.cls kX) a u0 sen).withEntry W.cur) :=
    ⟨{ ci198 := ci198, i198 := i198, fBack := fB }, ⟨hk198, hg198, ha198, hsB⟩, by
      have := fresh_default (c := P1.m.cls) tyB
      rw [htB] at this
      simpa [preparedCellV, Cell.setSlot, Cell.withEntry, Array.getElem?_setIfInBounds, bC, bS, bP, bC.symm, bS.symm, bP.symm, defaultValue] using this, fun _ _ => rfl⟩
  obtain ⟨tm, methC, cdC, kC, vm₁, hnC, -, -, -, -, -, -, -, hW₁, st1⟩ := Steps.initColdS (tb := p.tables) (e := e) (below := below) (s := s) (U := W) X.here hexec X.warmed hpl hown (t := Bundle.initS cls) rfl rfl (Bundle.fit_spec hcls).2
    (a' (.methodLink own ic (Bundle.initS cls)) (by simp [Bundle.ownAtomsX])) (h (.instanceMethod (Bundle.initS cls)) (by cases names <;> simp [Bundle.ownAtomsX, Bundle.chainSAtomsX, Bundle.passSAtoms])) (bytes := rx) (maxL := 2) (h (.code (Bundle.initS cls) rx 2 none) (by cases names <;> simp [Bundle.ownAtomsX, Bundle.chainSAtomsX, Bundle.passSAtoms]))
    (f := g) hg (a := a) (msg := msg) (rest := .ref a :: rest) hstack hd6
  cases Option.some.inj (hnC.symm.trans hP1m)
  have X₁ := X.noted hW₁
  obtain ⟨vm₂, X₂, st2⟩ := X₁.ctorMessageOffV hexec (g := { g with stack := .ref a :: rest }) hg hsize T L Z LZ M LM (P1 :: Ps)
    (fun P hP => by rcases List.mem_cons.mp hP with rfl | hP; exact L1; exact hL P hP) ⟨hlink1, hlink⟩ (u0 := u0) (sen := sen) (self := a) hmsg (cell := freshCell P1.m.cls kX) (cellS := cellS)
    hcell (fun _ => by simp) (by simp) rfl rfl hsel0 hselF hcellS hneS hknownS (by rw [hkeep _ (hout' _)]; exact hu0) (by rw [hkeep _ (hout' _)]; exact hsen)
    (Takes.of_laid hk hord tyC (by rw [Y.causeType]; rfl)) (Takes.of_laid hk hord tyS (by rw [Y.stackType]; exact fits_refV_array _ u0)) (Takes.of_laid hk hord tyP (by rw [Y.suppType]; exact fits_refV_object _ sen))
    (Takes.of_laid hk hord tyM (by rw [Y.msgType]; exact fits_refV_object _ ⟨msg, hmsg⟩)) Y.objLocals hskip htr [] hd6
    (by simp only [List.length_cons, hlen]; omega) (by simp only [List.length_cons, hlen]; exact hRlocals)
  obtain ⟨hwalk, hrun, hended, hWU, hsame⟩ := X₂.athrowLeaves hexec (g := { g with stack := .ref a :: rest, pc := g.pc + 3 }) hg hlocked hentered hout (a := a) (rest := rest) rfl hd9
  have hlt : a < ((W.setVm vm₁).setVm vm₂).heap.size := (Array.getElem?_eq_some_iff.mp hcell).1
  refine ⟨_, st1 _ (fun acts => ?_), hrun, hended, hWU, hsame.weaken (fun y hy hlt' => ?_) (Nat.le_refl _) (Nat.le_refl _), _, heapAt_setCell_self (s := (W.setVm vm₁).setVm vm₂) (plainBareV T.toThrowableT (freshCell P1.m.cls kX) a u0 sen msg) hlt, rfl, hfound⟩
  · rw [doInvoke_state]
    exact st2 _ hwalk
  · rcases List.mem_append.mp hy with h1 | h1
    · exact h1
    · exfalso
      have hb : y.base = a := by
        simp only [List.mem_cons, List.not_mem_nil, or_false] at h1
        rcases h1 with rfl | rfl | rfl | rfl | rfl <;> rfl
      rw [hb] at hlt'
      exact Nat.not_lt.mpr hnew hlt'
end XTS
section XTT
variable {p : Program} {l : Launch} {e : Env} {R : Room} {s : State} {m : MethodId} {args : Array Value} {below : List Frame} {meth : Method} {c : Code} {H : Heap} {locs : List Loc} {cells slots : Nat}
set_option maxHeartbeats 1000000 in
/-- 'throw new E("text")', the text by a short or a wide index; it follows the printed vx_throwS -/
theorem x_throw {Qc : Array Value → State → Outcome → State → Prop} {XC : String → State → State → Prop} {free : Addr → Prop} {ls : Array Slot} {rest : List Value} {cc : ByteArray} {pc nl : Nat} (hexec : p.tables.exec = Jvm.exec) (hb : c.code = cc) (hl : l.stackTraces = false) {own cls text : String} {names : List String} {ik is ic mc ms sa ix : Nat} {rx : ByteArray} {A : Nat → Prop}
    (x0 : decode rx 0 = .ok (.aload_n 0, 1)) (x1 : decode rx 1 = .ok (.aload_n 1, 1)) (x2 : decode rx 2 = .ok (.invokespecial ix, 3)) (x5 : decode rx 5 = .ok (.return_, 1))
    (hown : s.vm.findClass own = some m.cls) (hcls : Bundle.fit cls = true) (hnames : ∀ n ∈ names, Bundle.fit n = true)
    (hk : (Cond.classLink own ik cls).before args s = true) (hini : (Cond.initialized cls).before args s = true) (hstr : vk_R own is text sa s) (hat : ∀ w ∈ (Bundle.ownAtomsX own ic cls ix rx names).filter vx_no, w.before args s = true)
    (hgood : ∀ w ∈ Cond.classLink own ik cls :: Cond.initialized cls :: (Bundle.ownAtomsX own ic cls ix rx names).filter vx_no, vx_ot w = true)
    (hU : vx_Zq Bundle.tN "UNASSIGNED_STACK" Bundle.steD A s s.heap) (hN : vx_Zq Bundle.tN "SUPPRESSED_SENTINEL" Bundle.listD A s s.heap) (hS : va_S A s.heap H locs) (hsize : ls.size = c.maxLocals)
    (d0 : decode cc pc = .ok (.new ik, 3)) (d3 : decode cc (pc + 3) = .ok (.dup, 1)) (d4 : nl = 2 ∧ decode cc (pc + 4) = .ok (.ldc is, 2) ∨ nl = 3 ∧ decode cc (pc + 4) = .ok (.ldc_w is, 3)) (d6 : decode cc (pc + 4 + nl) = .ok (.invokespecial ic, 3)) (d9 : decode cc (pc + 4 + nl + 3) = .ok (.athrow, 1))
    (hout : ∀ x ∈ c.exceptionTable.toList, covers x (pc + 4 + nl + 3) = false)
    (hRframes : names.length + 3 < R.frames) (hRlocals : (rest.map fun v => v.category).sum + (13 * (names.length + 1) + 43) ≤ R.locals) (hRcells : cells + 1 ≤ R.cells) (hRslots : slots + 6 ≤ R.slots) (hlocks : meth.locks = false)
    (hx : ∀ t : State, s.vm.Alike t.vm → H.size ≤ t.heap.size → (∀ q : Nat, q < H.size → t.heap[q]? = H[q]?) → XC cls s t)
    (hf : ∀ z ∈ locs, free z.base) (hc : cells + 1 ≤ mc) (hs : slots + 6 ≤ ms) :
    W p l e R s m args below meth c H locs cells slots (vx_MQ below Qc XC args s mc ms free) (F0 m pc ls rest) := by
  intro T hT X
  have htr : e.platform.stackTraces = false := (show e.platform.stackTraces = l.stackTraces by rw [X.admits.platform]).trans hl
  have Y := vx_rebase X (R' := { frames := R.frames, locals := R.locals, cells := 1, slots := 6 }) (Nat.le_refl _) (Nat.le_refl _) hRcells hRslots
  obtain ⟨s', hA⟩ : ∃ z, z = (T.setVm s.vm).setFrames (.invoking m args :: below) := ⟨_, rfl⟩
  rw [← hA] at Y
  have hvm : s'.vm = s.vm := by rw [hA]; rfl
  have hhp : s'.heap = H := by rw [hA]; exact hT
  have hW0 : s.WarmedH s'.vm := by rw [hvm]; exact State.WarmedH.refl s
  have hat' : ∀ w ∈ (Bundle.ownAtomsX own ic cls ix rx names).filter vx_no, w.before args s' = true := fun w hw => vx_ot_at hW0 hvm.symm (hgood w (List.mem_cons_of_mem _ (List.mem_cons_of_mem _ hw))) (hat w hw)
  have hk' : (Cond.classLink own ik cls).before args s' = true := vx_ot_at hW0 hvm.symm (hgood _ List.mem_cons_self) hk
  have hini' : (Cond.initialized cls).before args s' = true := vx_ot_at hW0 hvm.symm (hgood _ (List.mem_cons_of_mem _ List.mem_cons_self)) hini
  have hU' : vx_Zq Bundle.tN "UNASSIGNED_STACK" Bundle.steD A s' s'.heap := by rw [hhp]; exact vx_Zq.moved hW0.alike (hU.kept hS.2.1)
  have hN' : vx_Zq Bundle.tN "SUPPRESSED_SENTINEL" Bundle.listD A s' s'.heap := by rw [hhp]; exact vx_Zq.moved hW0.alike (hN.kept hS.2.1)
  have h : ∀ w ∈ Bundle.ownAtomsX own ic cls ix rx names, w.before args s' = true := vx_own hat' (vx_isRefq hU'.1) (vx_isRefq hN'.1) hU'.2.word hN'.2.word
  have hown' : s'.vm.findClass own = some m.cls := by rw [hvm]; exact hown
  have hins : (Cond.instantiable cls 6).before args s' = true := h _ (by simp [Bundle.ownAtomsX])
  obtain ⟨vm₁, cX, kX, hfX, hkX, -, -, X₁, st1⟩ := Y.newCold hexec (own := own) (C := cls) (index := ik) (n := 6) hown' hk' hins hini'
    (g := F0 m pc ls rest) rfl (by rw [hb]; exact d0) (Nat.le_refl _) (Nat.le_refl _)
  generalize hT1 : (T.setVm vm₁).pushCell { cls := cX, slots := kX.instanceTypes.map defaultValue, vm := .none } = T1 at X₁ st1
  have hcat : (Value.ref T.heap.size).category = 1 := rfl
  have hcellA : T1.heap[T.heap.size]? = some (freshCell cX kX) := by rw [← hT1]; exact State.heap_pushCell_size _ _
  have d3' : decode c.code (pc + 3) = .ok (.dup, 1) := by rw [hb]; exact d3
  have hstr' : vk_R own is text sa s' := vk_R.warm hW0 hstr
  obtain ⟨U, hsteps, hrun, hend, hW, hsame, ce, hce, hO1, hO2⟩ := x_ctor X₁ hexec htr (own := own) (cls := cls) (names := names) (ic := ic) x0 x1 x2 x5 hown' hcls hnames h (fun x hx => nomatch hx) hfX hkX hcellA (by rw [hhp, hT]; exact Nat.le_refl _) (msg := .ref sa) rfl
    (g := { method := m, pc := pc + 4 + nl, locals := ls, stack := .ref sa :: .ref T.heap.size :: .ref T.heap.size :: rest, locked := none }) rfl hsize rfl rfl (rest := rest) rfl
    (by rw [hb]; exact d6) (by rw [hb]; exact d9) hout hRframes (by simp only [List.map_cons, List.sum_cons, hcat]; omega) hlocks
  obtain ⟨f1, f2⟩ := vx_frame hsame
  rw [hhp] at f1 f2
  have hWs : s.WarmedH U.vm := State.WarmedH.trans hW0 hW
  have hcl : s.vm.findClass cls = some ce.cls := by
    rw [hvm] at hO2
    exact hO2
  have hall : s.sameButNew ({ U with vm := s.vm } : State) locs mc ms := by
    subst hA
    obtain ⟨e1, e2⟩ := hsame
    rw [State.setFrames_setFrames] at e1
    have h2 : (T.setVm s.vm).sameButNew ({ U with vm := s.vm } : State) [] (0 + 1) (0 + 6) := ⟨e1, e2⟩
    have h3 := X.same.trans h2
    rw [List.append_nil] at h3
    exact h3.mono hc hs
  refine ⟨U, ?_, .threw T.heap.size, hrun, hend, Or.inr ⟨T.heap.size, rfl, cls, ce, locs, hx U hWs.alike f1 (fun q hq => f2 q hq (fun z hz => nomatch hz)), hce, hO1, hcl, hWs, hall, hf⟩⟩
  refine st1 _ ?_
  show Steps p.tables e below (T1.setTop { method := m, pc := pc + 3, locals := ls, stack := .ref T.heap.size :: rest, locked := none }) _
  jvm_step X₁.here [X₁.here.top, hexec, d3', Value.category]
  rcases d4 with ⟨rfl, d4⟩ | ⟨rfl, d4⟩
  · exact X₁.ldcString hexec (own := own) (text := text) (index := is) (a := sa) hown' hstr'.1 hstr'.2
      (g := { method := m, pc := pc + 4, locals := ls, stack := .ref T.heap.size :: .ref T.heap.size :: rest, locked := none }) rfl (by rw [hb]; exact d4) _ hsteps
  · exact X₁.ldcStringW hexec (own := own) (text := text) (index := is) (a := sa) hown' hstr'.1 hstr'.2
      (g := { method := m, pc := pc + 4, locals := ls, stack := .ref T.heap.size :: .ref T.heap.size :: rest, locked := none }) rfl (by rw [hb]; exact d4) _ hsteps
end XTT
theorem Hp.ext {G : Gp} {ad : Nat → Nat → Nat} {z : Zz} {X : Mm} {H H1 : Heap} (h : Hp G ad z X H) (h1 : H.size ≤ H1.size) (h2 : ∀ q : Nat, q < H.size → H1[q]? = H[q]?) : Hp G ad z X H1 :=
  ⟨fun k i hk => (h.1 k i hk).kept (h2 _ (h.1 k i hk).lt), h.2.1, h.2.2.1, Nat.le_trans h.2.2.2.1 h1, h.2.2.2.2⟩
def thr (y pc : Nat) (v : Int32) (a b c np : Nat) : Bool :=
  decide (decode (byt y) (pc + 3) = .ok (.dup, 1)) && (cond (decide (v = 1)) (decide (decode (byt y) (pc + 4) = .ok (.ldc_w (np / 64), 3)) && (decide (decode (byt y) (pc + 7) = .ok (.invokespecial b, 3)) && decide (decode (byt y) (pc + 10) = .ok (.athrow, 1))))
    (decide (decode (byt y) (pc + 4) = .ok (.ldc (np / 64), 2)) && (decide (decode (byt y) (pc + 6) = .ok (.invokespecial b, 3)) && decide (decode (byt y) (pc + 9) = .ok (.athrow, 1)))) &&
  (decide ((stl[np % 64]?).map (fun q => (q.1, q.2.1)) = some (11, np / 64)) && (decide (cid y = 11) && (decide (xcp.getD c (0, 0) = (a, b)) && Nat.ble (c + 1) 4))))
section THR
variable {y : Nat} {d mc ms : Nat} {wp : Nat → Nat → Prop} {z0 : Zz} {X0 : Mm} {QR : Option Av → Zz → Mm → Prop} {QX : Nat → Zz → Mm → Prop} {z : Zz} {pc : Nat} {ls : Lo} {st : List Av} {X : Mm}
set_option maxHeartbeats 1000000 in
/-- throw new E("text") -/
theorem v_throw (K : ∀ p, chk y p = true) {v : Int32} {a b c np : Nat} (ht : tb y pc = (95, v, a, b, c, np)) (hth : thr y pc v a b c np = true) (hq : QX c z X) (hr : rok d mc ms (z.1, z.2.1, z.2.2.1, z.2.2.2.1 + 1, z.2.2.2.2 + 6) = true := by rfl) (hd6 : Nat.ble 6 d = true := by rfl) (hst : Nat.ble st.length 4 = true := by rfl) : V y [] d mc ms wp z0 X0 QR QX z pc ls st X := by
  intro l G ad0 p e s m args below meth c0 C ad H locs cells slots la U hl ol os
  obtain ⟨h1, -, -⟩ := chk_sp K ht rfl
  have h1 : decode (byt y) pc = .ok (.new a, 3) := h1
  obtain ⟨-, hr2, hr3⟩ := rok_of hr
  simp only at hr2 hr3
  have hd6 := Nat.le_of_ble_eq_true hd6
  have hst := Nat.le_of_ble_eq_true hst
  have hsum := cat_sum G ad st
  unfold thr at hth
  simp only [Bool.and_eq_true, decide_eq_true_eq] at hth
  obtain ⟨d3, hld, hs1, hcid, hab, hc4⟩ := hth
  have hc4 : c < 4 := Nat.lt_of_succ_le (Nat.le_of_ble_eq_true hc4)
  obtain ⟨w1, w2, w3, w4, w5, w6⟩ := xcp_ok c hc4
  rw [hab] at w1 w3 w4 w5
  have hts := C.2.2.2.2.1
  have hKt := C.2.2.2.2.2.2.2.2.2.2.1
  have hKh := C.2.2.2.2.2.2.2.2.2.2.2
  have hown : s.vm.findClass RX11 = some m.cls := by have := C.2.2.2.1; rwa [hcid] at this
  obtain ⟨q, hq9, e1⟩ := Option.map_eq_some_iff.mp hs1
  have hR := hKt.2.1 (np % 64) q hq9
  rw [show q.1 = 11 from congrArg Prod.fst e1, show q.2.1 = np / 64 from congrArg Prod.snd e1] at hR
  have hat : ∀ w ∈ x_at RX11 b (exn c) c ["java/lang/RuntimeException", "java/lang/Exception"], w.before args s = true := vx_hat (fun w hw => hts w (TT_in (w3 w hw) (List.mem_filter.mp hw).2)) w4 (fun w hw => by
    simp only [List.mem_cons, List.not_mem_nil, or_false] at hw
    rcases hw with rfl | rfl | rfl | rfl
    · exact va_Nw.use rfl (hKt.2.2.2.1 c hc4)
    · exact va_Nw.use rfl (hKt.2.2.2.2.1 _ (by decide))
    · exact va_Nw.use rfl (hKt.2.2.2.2.1 _ (by decide))
    · exact va_Nw.use rfl (hKt.2.2.2.2.1 _ (by decide)))
  obtain ⟨hHp, hDf, hold, hnew, hag, hS, hcc, hss, hLL, hA⟩ := id U
  have hout : ∀ pc9 : Nat, ∀ x ∈ c0.exceptionTable.toList, covers x pc9 = false := fun pc9 x hx => by rw [C.2.2.2.2.2.2.2.2.1] at hx; cases hx
  have hx9 : ∀ t : State, s.vm.Alike t.vm → H.size ≤ t.heap.size → (∀ q : Nat, q < H.size → t.heap[q]? = H[q]?) → XCC G ad0 wp z0 X0 s.heap.size QX (exn c) s t := fun t _ g1 g2 =>
    ⟨⟨c, ad, z, X, rfl, hq, hHp.ext g1 g2, hDf, hold, hnew, hag, hLL⟩, Nat.le_trans hS.1 g1, fun q g3 g4 => by rw [g2 q (Nat.lt_of_lt_of_le g3 hS.1)]; exact hS.2.1 q g3 g4⟩
  have hU9 := hKh.1.narrow hA
  have hN9 := hKh.2.1.narrow hA
  obtain ⟨x0, x1, x2, x5⟩ := xsx_ok c
  cases hv : decide (v = 1) with
  | true =>
    rw [hv] at hld
    simp only [cond_true, Bool.and_eq_true, decide_eq_true_eq] at hld
    obtain ⟨d4, d7, d10⟩ := hld
    exact x_throw C.1 C.2.1 C.2.2.2.2.2.2.2.1 x0 x1 x2 x5 hown w6 (by decide +kernel) (hts _ w1) (hts _ w2) hR hat w5 hU9 hN9 hS (hl.1.trans C.2.2.1.symm) h1 d3 (Or.inr ⟨rfl, d4⟩) d7 d10 (hout _) (by show 2 + 3 < d; omega) (by show _ + (13 * (2 + 1) + 43) ≤ 40 * d; omega) (by show cells + 1 ≤ mc; omega) (by show slots + 6 ≤ ms; omega) C.2.2.2.2.2.1 hx9 hS.2.2 (by omega) (by omega)
  | false =>
    rw [hv] at hld
    simp only [cond_false, Bool.and_eq_true, decide_eq_true_eq] at hld
    obtain ⟨d4, d6, d9⟩ := hld
    exact x_throw C.1 C.2.1 C.2.2.2.2.2.2.2.1 x0 x1 x2 x5 hown w6 (by decide +kernel) (hts _ w1) (hts _ w2) hR hat w5 hU9 hN9 hS (hl.1.trans C.2.2.1.symm) h1 d3 (Or.inl ⟨rfl, d4⟩) d6 d9 (hout _) (by show 2 + 3 < d; omega) (by show _ + (13 * (2 + 1) + 43) ≤ 40 * d; omega) (by show cells + 1 ≤ mc; omega) (by show slots + 6 ≤ ms; omega) C.2.2.2.2.2.1 hx9 hS.2.2 (by omega) (by omega)
end THR
