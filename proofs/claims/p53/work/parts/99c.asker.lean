/-! the statement of an asker -/
theorem upd_upd {f : Nat → Int32} {a : Nat} {v w : Int32} : upd (upd f a v) a w = upd f a w := by
  funext q
  by_cases c : q = a
  · rw [c, upd_at, upd_at]
  · rw [upd_ne c, upd_ne c, upd_ne c]
def asE (A : Nat) (V : Sm) (v : Int32) : Sm := sI (sI (sI V 53 0 (20 + A) v) 62 0 A (nI 1)) 48 0 34 (nI (A + 1))
theorem asE_x {A : Nat} {V : Sm} {v : Int32} {x : Nat} (h : x ≠ 34) : gI (asE A V v).1 48 0 x = gI V.1 48 0 x := by
  unfold asE
  rw [gI_sIv, upd_ne h, gI_sIk (by omega), gI_sIk (by omega)]
theorem asE_f {A : Nat} {V : Sm} {v : Int32} : FrW V (asE A V v) := ((FrW.sk (by decide)).tr (FrW.sk (by decide))).tr (FrW.s48 (by omega))
