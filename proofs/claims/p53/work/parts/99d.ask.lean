/-! the statement of a request -/
def rqU (f : Nat → Int32) (n a k l : Nat) : Nat → Int32 := upd (upd (upd (upd (upd (upd (upd f (118 + 6 * n) (nI n)) (118 + 6 * n + 1) (nI a)) (118 + 6 * n + 2) (nI k)) (118 + 6 * n + 3) (nI l)) (118 + 6 * n + 4) (nI l)) 9 (nI (n + 1))) 6 (nI (n + 1))
theorem rqU_o {f : Nat → Int32} {n a k l q : Nat} (h9 : q ≠ 9) (h6 : q ≠ 6) (h : ¬ (118 + 6 * n ≤ q ∧ q < 118 + 6 * n + 5)) : rqU f n a k l q = f q := by
  unfold rqU
  rw [upd_ne h6, upd_ne h9, upd_ne (by omega), upd_ne (by omega), upd_ne (by omega), upd_ne (by omega), upd_ne (by omega)]
def rqX (X : Sm) (d n a k : Nat) (l : Int32) : Sm := sI (sI (sI (sI (sI (sI (sI X 14 d n (nI a)) 15 d n (nI k)) 16 d n l) 17 d n l) 18 d n (nI 0)) 19 d n (nI n)) 12 d 1 (nI (n + 1))
theorem c_36s {X : Sm} {d n a k : Nat} {l : Int32} (h : gI X.1 12 d 1 = nI n) (hn : n < 40) : fn_36 d (nI n) (nI a) (nI k) l (nI 0) X = some ((), rqX X d n a k l) := by
  unfold fn_36
  rw [h, iteI_le_f hn (by omega), ck_in hn (by omega), ix_nI (by omega), wr_t, gI_sIk (by omega), h, ck_in hn (by omega), ix_nI (by omega), wr_t, gI_sIk (by omega), gI_sIk (by omega), h, ck_in hn (by omega), ix_nI (by omega), wr_t, gI_sIk (by omega), gI_sIk (by omega), gI_sIk (by omega), h, ck_in hn (by omega), ix_nI (by omega), wr_t, gI_sIk (by omega), gI_sIk (by omega), gI_sIk (by omega), gI_sIk (by omega), h, ck_in hn (by omega), ix_nI (by omega), wr_t, gI_sIk (by omega), gI_sIk (by omega), gI_sIk (by omega), gI_sIk (by omega), gI_sIk (by omega), h, ck_in hn (by omega), ix_nI (by omega), wr_t, gI_sIk (by omega), gI_sIk (by omega), gI_sIk (by omega), gI_sIk (by omega), gI_sIk (by omega), gI_sIk (by omega), h, wr_t, nI_add]
  rfl
theorem rqX_f {X : Sm} {d n a k : Nat} {l : Int32} : Fr (SD d) X (rqX X d n a k l) := by
  have m : ∀ k, k ∈ [5, 6, 7, 8, 9, 10, 11, 12, 14, 15, 16, 17, 18, 19] → SD d k d := fun k hk => SDm hk
  exact ((((((Fr.sI (m 14 (by decide))).tr (Fr.sI (m 15 (by decide)))).tr (Fr.sI (m 16 (by decide)))).tr (Fr.sI (m 17 (by decide)))).tr (Fr.sI (m 18 (by decide)))).tr (Fr.sI (m 19 (by decide)))).tr (Fr.sI (m 12 (by decide)))
theorem rqX_o {X : Sm} {d n a k : Nat} {l : Int32} {q : Nat} (h : ¬ q ∈ [12, 14, 15, 16, 17, 18, 19]) : gI (rqX X d n a k l).1 q = gI X.1 q := by
  simp only [List.mem_cons, List.mem_nil_iff, or_false, not_or] at h
  unfold rqX
  rw [gI_sIk (by omega), gI_sIk (by omega), gI_sIk (by omega), gI_sIk (by omega), gI_sIk (by omega), gI_sIk (by omega), gI_sIk (by omega)]
