/-! the straight instructions, one by one, over the machine (printed by wip/whole/gen9.py) -/
section OPS
variable {y : Nat} {xt : List ExceptionTableEntry} {d mc ms : Nat} {wp : Nat → Nat → Prop} {z0 : Zz} {X0 : Mm} {QR : Option Av → Zz → Mm → Prop} {QX : Nat → Zz → Mm → Prop} {z : Zz} {pc : Nat} {ls : Lo} {st : List Av} {X : Mm}
theorem o_iadd {a b : Int32}  (hd : decode (byt y) pc = .ok (.iadd, 1)) (k : V y xt d mc ms wp z0 X0 QR QX z (pc + 1) ls (aI (a + b) :: st) X) : V y xt d mc ms wp z0 X0 QR QX z pc ls (aI b :: aI a :: st) X := by
  intro l G ad0 p e s m args below meth c C ad H locs cells slots la U hl ol os
  exact lv_iadd C.1 C.2.1 hd (k l G ad0 p e s m args below meth c C ad H locs cells slots la U hl ol (oks_c trivial (oks_t (oks_t (os)))))
theorem o_isub {a b : Int32}  (hd : decode (byt y) pc = .ok (.isub, 1)) (k : V y xt d mc ms wp z0 X0 QR QX z (pc + 1) ls (aI (a - b) :: st) X) : V y xt d mc ms wp z0 X0 QR QX z pc ls (aI b :: aI a :: st) X := by
  intro l G ad0 p e s m args below meth c C ad H locs cells slots la U hl ol os
  exact lv_isub C.1 C.2.1 hd (k l G ad0 p e s m args below meth c C ad H locs cells slots la U hl ol (oks_c trivial (oks_t (oks_t (os)))))
theorem o_imul {a b : Int32}  (hd : decode (byt y) pc = .ok (.imul, 1)) (k : V y xt d mc ms wp z0 X0 QR QX z (pc + 1) ls (aI (a * b) :: st) X) : V y xt d mc ms wp z0 X0 QR QX z pc ls (aI b :: aI a :: st) X := by
  intro l G ad0 p e s m args below meth c C ad H locs cells slots la U hl ol os
  exact lv_imul C.1 C.2.1 hd (k l G ad0 p e s m args below meth c C ad H locs cells slots la U hl ol (oks_c trivial (oks_t (oks_t (os)))))
theorem o_iand {a b : Int32}  (hd : decode (byt y) pc = .ok (.iand, 1)) (k : V y xt d mc ms wp z0 X0 QR QX z (pc + 1) ls (aI (a &&& b) :: st) X) : V y xt d mc ms wp z0 X0 QR QX z pc ls (aI b :: aI a :: st) X := by
  intro l G ad0 p e s m args below meth c C ad H locs cells slots la U hl ol os
  exact lv_iand C.1 C.2.1 hd (k l G ad0 p e s m args below meth c C ad H locs cells slots la U hl ol (oks_c trivial (oks_t (oks_t (os)))))
theorem o_ior {a b : Int32}  (hd : decode (byt y) pc = .ok (.ior, 1)) (k : V y xt d mc ms wp z0 X0 QR QX z (pc + 1) ls (aI (a ||| b) :: st) X) : V y xt d mc ms wp z0 X0 QR QX z pc ls (aI b :: aI a :: st) X := by
  intro l G ad0 p e s m args below meth c C ad H locs cells slots la U hl ol os
  exact lv_ior C.1 C.2.1 hd (k l G ad0 p e s m args below meth c C ad H locs cells slots la U hl ol (oks_c trivial (oks_t (oks_t (os)))))
theorem o_ishl {a b : Int32}  (hd : decode (byt y) pc = .ok (.ishl, 1)) (k : V y xt d mc ms wp z0 X0 QR QX z (pc + 1) ls (aI (a <<< (b &&& 31)) :: st) X) : V y xt d mc ms wp z0 X0 QR QX z pc ls (aI b :: aI a :: st) X := by
  intro l G ad0 p e s m args below meth c C ad H locs cells slots la U hl ol os
  exact lv_ishl C.1 C.2.1 hd (k l G ad0 p e s m args below meth c C ad H locs cells slots la U hl ol (oks_c trivial (oks_t (oks_t (os)))))
theorem o_ishr {a b : Int32}  (hd : decode (byt y) pc = .ok (.ishr, 1)) (k : V y xt d mc ms wp z0 X0 QR QX z (pc + 1) ls (aI (a >>> (b &&& 31)) :: st) X) : V y xt d mc ms wp z0 X0 QR QX z pc ls (aI b :: aI a :: st) X := by
  intro l G ad0 p e s m args below meth c C ad H locs cells slots la U hl ol os
  exact lv_ishr C.1 C.2.1 hd (k l G ad0 p e s m args below meth c C ad H locs cells slots la U hl ol (oks_c trivial (oks_t (oks_t (os)))))
theorem o_ineg {a : Int32}  (hd : decode (byt y) pc = .ok (.ineg, 1)) (k : V y xt d mc ms wp z0 X0 QR QX z (pc + 1) ls (aI (-a) :: st) X) : V y xt d mc ms wp z0 X0 QR QX z pc ls (aI a :: st) X := by
  intro l G ad0 p e s m args below meth c C ad H locs cells slots la U hl ol os
  exact lv_ineg C.1 C.2.1 hd (k l G ad0 p e s m args below meth c C ad H locs cells slots la U hl ol (oks_c trivial (oks_t (os))))
theorem o_idiv {a b : Int32} (h0 : ¬ b = 0) (hd : decode (byt y) pc = .ok (.idiv, 1)) (k : V y xt d mc ms wp z0 X0 QR QX z (pc + 1) ls (aI (a / b) :: st) X) : V y xt d mc ms wp z0 X0 QR QX z pc ls (aI b :: aI a :: st) X := by
  intro l G ad0 p e s m args below meth c C ad H locs cells slots la U hl ol os
  exact lv_idiv C.1 C.2.1 hd h0 (k l G ad0 p e s m args below meth c C ad H locs cells slots la U hl ol (oks_c trivial (oks_t (oks_t (os)))))
theorem o_irem {a b : Int32} (h0 : ¬ b = 0) (hd : decode (byt y) pc = .ok (.irem, 1)) (k : V y xt d mc ms wp z0 X0 QR QX z (pc + 1) ls (aI (a - a / b * b) :: st) X) : V y xt d mc ms wp z0 X0 QR QX z pc ls (aI b :: aI a :: st) X := by
  intro l G ad0 p e s m args below meth c C ad H locs cells slots la U hl ol os
  exact lv_irem C.1 C.2.1 hd h0 (k l G ad0 p e s m args below meth c C ad H locs cells slots la U hl ol (oks_c trivial (oks_t (oks_t (os)))))
theorem o_ladd {a b : Int64}  (hd : decode (byt y) pc = .ok (.ladd, 1)) (k : V y xt d mc ms wp z0 X0 QR QX z (pc + 1) ls (aJ (a + b) :: st) X) : V y xt d mc ms wp z0 X0 QR QX z pc ls (aJ b :: aJ a :: st) X := by
  intro l G ad0 p e s m args below meth c C ad H locs cells slots la U hl ol os
  exact lv_ladd C.1 C.2.1 hd (k l G ad0 p e s m args below meth c C ad H locs cells slots la U hl ol (oks_c trivial (oks_t (oks_t (os)))))
theorem o_lsub {a b : Int64}  (hd : decode (byt y) pc = .ok (.lsub, 1)) (k : V y xt d mc ms wp z0 X0 QR QX z (pc + 1) ls (aJ (a - b) :: st) X) : V y xt d mc ms wp z0 X0 QR QX z pc ls (aJ b :: aJ a :: st) X := by
  intro l G ad0 p e s m args below meth c C ad H locs cells slots la U hl ol os
  exact lv_lsub C.1 C.2.1 hd (k l G ad0 p e s m args below meth c C ad H locs cells slots la U hl ol (oks_c trivial (oks_t (oks_t (os)))))
theorem o_lmul {a b : Int64}  (hd : decode (byt y) pc = .ok (.lmul, 1)) (k : V y xt d mc ms wp z0 X0 QR QX z (pc + 1) ls (aJ (a * b) :: st) X) : V y xt d mc ms wp z0 X0 QR QX z pc ls (aJ b :: aJ a :: st) X := by
  intro l G ad0 p e s m args below meth c C ad H locs cells slots la U hl ol os
  exact lv_lmul C.1 C.2.1 hd (k l G ad0 p e s m args below meth c C ad H locs cells slots la U hl ol (oks_c trivial (oks_t (oks_t (os)))))
theorem o_land {a b : Int64}  (hd : decode (byt y) pc = .ok (.land, 1)) (k : V y xt d mc ms wp z0 X0 QR QX z (pc + 1) ls (aJ (a &&& b) :: st) X) : V y xt d mc ms wp z0 X0 QR QX z pc ls (aJ b :: aJ a :: st) X := by
  intro l G ad0 p e s m args below meth c C ad H locs cells slots la U hl ol os
  exact lv_land C.1 C.2.1 hd (k l G ad0 p e s m args below meth c C ad H locs cells slots la U hl ol (oks_c trivial (oks_t (oks_t (os)))))
theorem o_lor {a b : Int64}  (hd : decode (byt y) pc = .ok (.lor, 1)) (k : V y xt d mc ms wp z0 X0 QR QX z (pc + 1) ls (aJ (a ||| b) :: st) X) : V y xt d mc ms wp z0 X0 QR QX z pc ls (aJ b :: aJ a :: st) X := by
  intro l G ad0 p e s m args below meth c C ad H locs cells slots la U hl ol os
  exact lv_lor C.1 C.2.1 hd (k l G ad0 p e s m args below meth c C ad H locs cells slots la U hl ol (oks_c trivial (oks_t (oks_t (os)))))
theorem o_lcmp {a b : Int64}  (hd : decode (byt y) pc = .ok (.lcmp, 1)) (k : V y xt d mc ms wp z0 X0 QR QX z (pc + 1) ls (aI (lg_cmp a b) :: st) X) : V y xt d mc ms wp z0 X0 QR QX z pc ls (aJ b :: aJ a :: st) X := by
  intro l G ad0 p e s m args below meth c C ad H locs cells slots la U hl ol os
  exact W.lcmp C.1 C.2.1 hd (k l G ad0 p e s m args below meth c C ad H locs cells slots la U hl ol (oks_c trivial (oks_t (oks_t (os)))))
theorem o_lshl {a : Int64} {b : Int32}  (hd : decode (byt y) pc = .ok (.lshl, 1)) (k : V y xt d mc ms wp z0 X0 QR QX z (pc + 1) ls (aJ (a <<< (b.toInt64 &&& 63)) :: st) X) : V y xt d mc ms wp z0 X0 QR QX z pc ls (aI b :: aJ a :: st) X := by
  intro l G ad0 p e s m args below meth c C ad H locs cells slots la U hl ol os
  exact lv_lshl C.1 C.2.1 hd rfl (k l G ad0 p e s m args below meth c C ad H locs cells slots la U hl ol (oks_c trivial (oks_t (oks_t (os)))))
theorem o_lshr {a : Int64} {b : Int32}  (hd : decode (byt y) pc = .ok (.lshr, 1)) (k : V y xt d mc ms wp z0 X0 QR QX z (pc + 1) ls (aJ (a >>> (b.toInt64 &&& 63)) :: st) X) : V y xt d mc ms wp z0 X0 QR QX z pc ls (aI b :: aJ a :: st) X := by
  intro l G ad0 p e s m args below meth c C ad H locs cells slots la U hl ol os
  exact lv_lshr C.1 C.2.1 hd rfl (k l G ad0 p e s m args below meth c C ad H locs cells slots la U hl ol (oks_c trivial (oks_t (oks_t (os)))))
theorem o_i2l {a : Int32}  (hd : decode (byt y) pc = .ok (.i2l, 1)) (k : V y xt d mc ms wp z0 X0 QR QX z (pc + 1) ls (aJ a.toInt64 :: st) X) : V y xt d mc ms wp z0 X0 QR QX z pc ls (aI a :: st) X := by
  intro l G ad0 p e s m args below meth c C ad H locs cells slots la U hl ol os
  exact lv_i2l C.1 C.2.1 hd rfl (k l G ad0 p e s m args below meth c C ad H locs cells slots la U hl ol (oks_c trivial (oks_t (os))))
theorem o_l2i {a : Int64}  (hd : decode (byt y) pc = .ok (.l2i, 1)) (k : V y xt d mc ms wp z0 X0 QR QX z (pc + 1) ls (aI a.toInt32 :: st) X) : V y xt d mc ms wp z0 X0 QR QX z pc ls (aJ a :: st) X := by
  intro l G ad0 p e s m args below meth c C ad H locs cells slots la U hl ol os
  exact lv_l2i C.1 C.2.1 hd rfl (k l G ad0 p e s m args below meth c C ad H locs cells slots la U hl ol (oks_c trivial (oks_t (os))))
theorem o_i2b {a : Int32}  (hd : decode (byt y) pc = .ok (.i2b, 1)) (k : V y xt d mc ms wp z0 X0 QR QX z (pc + 1) ls (aI a.toInt8.toInt32 :: st) X) : V y xt d mc ms wp z0 X0 QR QX z pc ls (aI a :: st) X := by
  intro l G ad0 p e s m args below meth c C ad H locs cells slots la U hl ol os
  exact lv_i2b C.1 C.2.1 hd rfl (k l G ad0 p e s m args below meth c C ad H locs cells slots la U hl ol (oks_c trivial (oks_t (os))))
theorem o_i2f {a : Int32}  (hd : decode (byt y) pc = .ok (.i2f, 1)) (k : V y xt d mc ms wp z0 X0 QR QX z (pc + 1) ls (aF (FP.i2f a) :: st) X) : V y xt d mc ms wp z0 X0 QR QX z pc ls (aI a :: st) X := by
  intro l G ad0 p e s m args below meth c C ad H locs cells slots la U hl ol os
  exact lv_i2f C.1 C.2.1 hd (k l G ad0 p e s m args below meth c C ad H locs cells slots la U hl ol (oks_c trivial (oks_t (os))))
theorem o_i2d {a : Int32}  (hd : decode (byt y) pc = .ok (.i2d, 1)) (k : V y xt d mc ms wp z0 X0 QR QX z (pc + 1) ls (aD (FP.i2d a) :: st) X) : V y xt d mc ms wp z0 X0 QR QX z pc ls (aI a :: st) X := by
  intro l G ad0 p e s m args below meth c C ad H locs cells slots la U hl ol os
  exact lv_i2d C.1 C.2.1 hd (k l G ad0 p e s m args below meth c C ad H locs cells slots la U hl ol (oks_c trivial (oks_t (os))))
theorem o_l2d {a : Int64}  (hd : decode (byt y) pc = .ok (.l2d, 1)) (k : V y xt d mc ms wp z0 X0 QR QX z (pc + 1) ls (aD (FP.l2d a) :: st) X) : V y xt d mc ms wp z0 X0 QR QX z pc ls (aJ a :: st) X := by
  intro l G ad0 p e s m args below meth c C ad H locs cells slots la U hl ol os
  exact lv_l2d C.1 C.2.1 hd (k l G ad0 p e s m args below meth c C ad H locs cells slots la U hl ol (oks_c trivial (oks_t (os))))
theorem o_f2d {a : UInt32} (h0 : vf_n64 (FP.f2d a)) (hd : decode (byt y) pc = .ok (.f2d, 1)) (k : V y xt d mc ms wp z0 X0 QR QX z (pc + 1) ls (aD (FP.f2d a) :: st) X) : V y xt d mc ms wp z0 X0 QR QX z pc ls (aF a :: st) X := by
  intro l G ad0 p e s m args below meth c C ad H locs cells slots la U hl ol os
  exact lv_f2d C.1 C.2.1 hd h0 (k l G ad0 p e s m args below meth c C ad H locs cells slots la U hl ol (oks_c trivial (oks_t (os))))
theorem o_fdiv {a b : UInt32} (h0 : vf_n32 (FP.fdiv a b)) (hd : decode (byt y) pc = .ok (.fdiv, 1)) (k : V y xt d mc ms wp z0 X0 QR QX z (pc + 1) ls (aF (FP.fdiv a b) :: st) X) : V y xt d mc ms wp z0 X0 QR QX z pc ls (aF b :: aF a :: st) X := by
  intro l G ad0 p e s m args below meth c C ad H locs cells slots la U hl ol os
  exact lv_fdiv C.1 C.2.1 hd h0 (k l G ad0 p e s m args below meth c C ad H locs cells slots la U hl ol (oks_c trivial (oks_t (oks_t (os)))))
theorem o_ddiv {a b : UInt64} (h0 : vf_n64 (FP.ddiv a b)) (hd : decode (byt y) pc = .ok (.ddiv, 1)) (k : V y xt d mc ms wp z0 X0 QR QX z (pc + 1) ls (aD (FP.ddiv a b) :: st) X) : V y xt d mc ms wp z0 X0 QR QX z pc ls (aD b :: aD a :: st) X := by
  intro l G ad0 p e s m args below meth c C ad H locs cells slots la U hl ol os
  exact lv_ddiv C.1 C.2.1 hd h0 (k l G ad0 p e s m args below meth c C ad H locs cells slots la U hl ol (oks_c trivial (oks_t (oks_t (os)))))
theorem o_fcmpl {a b : UInt32}  (hd : decode (byt y) pc = .ok (.fcmp .l, 1)) (k : V y xt d mc ms wp z0 X0 QR QX z (pc + 1) ls (aI (Op.cmpValue (FP.fcmp a b) .l) :: st) X) : V y xt d mc ms wp z0 X0 QR QX z pc ls (aF b :: aF a :: st) X := by
  intro l G ad0 p e s m args below meth c C ad H locs cells slots la U hl ol os
  exact lv_fcmp (op := .l) C.1 C.2.1 hd (k l G ad0 p e s m args below meth c C ad H locs cells slots la U hl ol (oks_c trivial (oks_t (oks_t (os)))))
theorem o_dcmpl {a b : UInt64}  (hd : decode (byt y) pc = .ok (.dcmp .l, 1)) (k : V y xt d mc ms wp z0 X0 QR QX z (pc + 1) ls (aI (Op.cmpValue (FP.dcmp a b) .l) :: st) X) : V y xt d mc ms wp z0 X0 QR QX z pc ls (aD b :: aD a :: st) X := by
  intro l G ad0 p e s m args below meth c C ad H locs cells slots la U hl ol os
  exact lv_dcmp (op := .l) C.1 C.2.1 hd (k l G ad0 p e s m args below meth c C ad H locs cells slots la U hl ol (oks_c trivial (oks_t (oks_t (os)))))
theorem o_iconst {v : Int32}  (hd : decode (byt y) pc = .ok (.iconst v.toInt, 1)) (k : V y xt d mc ms wp z0 X0 QR QX z (pc + 1) ls (aI v :: st) X) : V y xt d mc ms wp z0 X0 QR QX z pc ls (st) X := by
  intro l G ad0 p e s m args below meth c C ad H locs cells slots la U hl ol os
  exact lv_iconst C.1 C.2.1 hd (Int32.ofInt_toInt v) (k l G ad0 p e s m args below meth c C ad H locs cells slots la U hl ol (oks_c trivial (os)))
theorem o_bipush {v : Int32} (h0 : (Int8.ofInt v.toInt).toInt32 = v) (hd : decode (byt y) pc = .ok (.bipush v.toInt, 2)) (k : V y xt d mc ms wp z0 X0 QR QX z (pc + 2) ls (aI v :: st) X) : V y xt d mc ms wp z0 X0 QR QX z pc ls (st) X := by
  intro l G ad0 p e s m args below meth c C ad H locs cells slots la U hl ol os
  exact lv_bipush C.1 C.2.1 hd h0 (k l G ad0 p e s m args below meth c C ad H locs cells slots la U hl ol (oks_c trivial (os)))
theorem o_sipush {v : Int32} (h0 : (Int16.ofInt v.toInt).toInt32 = v) (hd : decode (byt y) pc = .ok (.sipush v.toInt, 3)) (k : V y xt d mc ms wp z0 X0 QR QX z (pc + 3) ls (aI v :: st) X) : V y xt d mc ms wp z0 X0 QR QX z pc ls (st) X := by
  intro l G ad0 p e s m args below meth c C ad H locs cells slots la U hl ol os
  exact lv_sipush C.1 C.2.1 hd h0 (k l G ad0 p e s m args below meth c C ad H locs cells slots la U hl ol (oks_c trivial (os)))
theorem o_lconst {a : Nat} (h0 : a < 2) (hd : decode (byt y) pc = .ok (.lconst (Fin.ofNat 2 a), 1)) (k : V y xt d mc ms wp z0 X0 QR QX z (pc + 1) ls (aJ (Int64.ofNat a) :: st) X) : V y xt d mc ms wp z0 X0 QR QX z pc ls (st) X := by
  intro l G ad0 p e s m args below meth c C ad H locs cells slots la U hl ol os
  exact lv_lconst C.1 C.2.1 hd (by rw [show ((Fin.ofNat 2 a : Fin 2) : Nat) = a from Nat.mod_eq_of_lt h0]) (k l G ad0 p e s m args below meth c C ad H locs cells slots la U hl ol (oks_c trivial (os)))
theorem o_fconst   (hd : decode (byt y) pc = .ok (.fconst 0, 1)) (k : V y xt d mc ms wp z0 X0 QR QX z (pc + 1) ls (aF FP.fconst0 :: st) X) : V y xt d mc ms wp z0 X0 QR QX z pc ls (st) X := by
  intro l G ad0 p e s m args below meth c C ad H locs cells slots la U hl ol os
  exact lv_fconst0 C.1 C.2.1 hd (k l G ad0 p e s m args below meth c C ad H locs cells slots la U hl ol (oks_c trivial (os)))
theorem o_dconst   (hd : decode (byt y) pc = .ok (.dconst 0, 1)) (k : V y xt d mc ms wp z0 X0 QR QX z (pc + 1) ls (aD FP.dconst0 :: st) X) : V y xt d mc ms wp z0 X0 QR QX z pc ls (st) X := by
  intro l G ad0 p e s m args below meth c C ad H locs cells slots la U hl ol os
  exact lv_dconst0 C.1 C.2.1 hd (k l G ad0 p e s m args below meth c C ad H locs cells slots la U hl ol (oks_c trivial (os)))
theorem o_ldc2 {a : Nat} {v : Int32} (h0 : (cid y, a, v) ∈ LCd) (hd : decode (byt y) pc = .ok (.ldc2_w a, 3)) (k : V y xt d mc ms wp z0 X0 QR QX z (pc + 3) ls (aJ v.toInt64 :: st) X) : V y xt d mc ms wp z0 X0 QR QX z pc ls st X := by
  intro l G ad0 p e s m args below meth c C ad H locs cells slots la U hl ol os
  exact lv_ldc2 C.1 C.2.1 C.2.2.2.1 (C.2.2.2.2.1 _ (LCd_in _ h0)) hd (k l G ad0 p e s m args below meth c C ad H locs cells slots la U hl ol (oks_c trivial os))
theorem o_pop {u : Av} (h0 : cat2 u = false) (hd : decode (byt y) pc = .ok (.pop, 1)) (k : V y xt d mc ms wp z0 X0 QR QX z (pc + 1) ls st X) : V y xt d mc ms wp z0 X0 QR QX z pc ls (u :: st) X := by
  intro l G ad0 p e s m args below meth c C ad H locs cells slots la U hl ol os
  exact lv_pop C.1 C.2.1 hd (cat_cv1 h0) (k l G ad0 p e s m args below meth c C ad H locs cells slots la U hl ol (oks_t os))
theorem o_dup {u : Av} (h0 : cat2 u = false) (hd : decode (byt y) pc = .ok (.dup, 1)) (k : V y xt d mc ms wp z0 X0 QR QX z (pc + 1) ls (u :: u :: st) X) : V y xt d mc ms wp z0 X0 QR QX z pc ls (u :: st) X := by
  intro l G ad0 p e s m args below meth c C ad H locs cells slots la U hl ol os
  exact lv_dup C.1 C.2.1 hd (cat_cv1 h0) (k l G ad0 p e s m args below meth c C ad H locs cells slots la U hl ol (oks_c (oks_h os) os))
theorem o_dup2 {u v : Av} (h0 : cat2 u = false) (h1 : cat2 v = false) (hd : decode (byt y) pc = .ok (.dup2, 1)) (k : V y xt d mc ms wp z0 X0 QR QX z (pc + 1) ls (u :: v :: u :: v :: st) X) : V y xt d mc ms wp z0 X0 QR QX z pc ls (u :: v :: st) X := by
  intro l G ad0 p e s m args below meth c C ad H locs cells slots la U hl ol os
  exact lv_dup2_11 C.1 C.2.1 hd (cat_cv1 h0) (cat_cv1 h1) (k l G ad0 p e s m args below meth c C ad H locs cells slots la U hl ol (oks_c (oks_h os) (oks_c (oks_h (oks_t os)) os)))
theorem o_goto {np : Nat} (hd : decode (byt y) pc = .ok (.goto ((np : Int) - (pc : Int)), 3)) (k : V y xt d mc ms wp z0 X0 QR QX z np ls st X) : V y xt d mc ms wp z0 X0 QR QX z pc ls st X := by
  intro l G ad0 p e s m args below meth c C ad H locs cells slots la U hl ol os
  exact lv_goto C.1 C.2.1 hd (by omega) (k l G ad0 p e s m args below meth c C ad H locs cells slots la U hl ol os)
theorem o_iload {a : Nat} {x : Int32} (hg : lget a ls = some (aI x)) (hd : decode (byt y) pc = .ok (.iload a, 2)) (k : V y xt d mc ms wp z0 X0 QR QX z (pc + 2) ls (aI x :: st) X) : V y xt d mc ms wp z0 X0 QR QX z pc ls st X := by
  intro l G ad0 p e s m args below meth c C ad H locs cells slots la U hl ol os
  exact lv_iload C.1 C.2.1 hd (lget_la hl hg) (k l G ad0 p e s m args below meth c C ad H locs cells slots la U hl ol (oks_c trivial os))
theorem o_iload_n {a : Nat} {x : Int32} (h0 : a < 4) (hg : lget a ls = some (aI x)) (hd : decode (byt y) pc = .ok (.iload_n (Fin.ofNat 4 a), 1)) (k : V y xt d mc ms wp z0 X0 QR QX z (pc + 1) ls (aI x :: st) X) : V y xt d mc ms wp z0 X0 QR QX z pc ls st X := by
  intro l G ad0 p e s m args below meth c C ad H locs cells slots la U hl ol os
  exact lv_iload_n C.1 C.2.1 hd (Nat.mod_eq_of_lt h0) (lget_la hl hg) (k l G ad0 p e s m args below meth c C ad H locs cells slots la U hl ol (oks_c trivial os))
theorem o_lload {a : Nat} {x : Int64} (hg : lget a ls = some (aJ x)) (hd : decode (byt y) pc = .ok (.lload a, 2)) (k : V y xt d mc ms wp z0 X0 QR QX z (pc + 2) ls (aJ x :: st) X) : V y xt d mc ms wp z0 X0 QR QX z pc ls st X := by
  intro l G ad0 p e s m args below meth c C ad H locs cells slots la U hl ol os
  exact lv_lload C.1 C.2.1 hd (lget_la hl hg) (k l G ad0 p e s m args below meth c C ad H locs cells slots la U hl ol (oks_c trivial os))
theorem o_lload_n {a : Nat} {x : Int64} (h0 : a < 4) (hg : lget a ls = some (aJ x)) (hd : decode (byt y) pc = .ok (.lload_n (Fin.ofNat 4 a), 1)) (k : V y xt d mc ms wp z0 X0 QR QX z (pc + 1) ls (aJ x :: st) X) : V y xt d mc ms wp z0 X0 QR QX z pc ls st X := by
  intro l G ad0 p e s m args below meth c C ad H locs cells slots la U hl ol os
  exact lv_lload_n C.1 C.2.1 hd (Nat.mod_eq_of_lt h0) (lget_la hl hg) (k l G ad0 p e s m args below meth c C ad H locs cells slots la U hl ol (oks_c trivial os))
theorem o_fload {a : Nat} {x : UInt32} (hg : lget a ls = some (aF x)) (hd : decode (byt y) pc = .ok (.fload a, 2)) (k : V y xt d mc ms wp z0 X0 QR QX z (pc + 2) ls (aF x :: st) X) : V y xt d mc ms wp z0 X0 QR QX z pc ls st X := by
  intro l G ad0 p e s m args below meth c C ad H locs cells slots la U hl ol os
  exact lv_fload C.1 C.2.1 hd (lget_la hl hg) (k l G ad0 p e s m args below meth c C ad H locs cells slots la U hl ol (oks_c trivial os))
theorem o_fload_n {a : Nat} {x : UInt32} (h0 : a < 4) (hg : lget a ls = some (aF x)) (hd : decode (byt y) pc = .ok (.fload_n (Fin.ofNat 4 a), 1)) (k : V y xt d mc ms wp z0 X0 QR QX z (pc + 1) ls (aF x :: st) X) : V y xt d mc ms wp z0 X0 QR QX z pc ls st X := by
  intro l G ad0 p e s m args below meth c C ad H locs cells slots la U hl ol os
  exact lv_fload_n C.1 C.2.1 hd (Nat.mod_eq_of_lt h0) (lget_la hl hg) (k l G ad0 p e s m args below meth c C ad H locs cells slots la U hl ol (oks_c trivial os))
theorem o_dload {a : Nat} {x : UInt64} (hg : lget a ls = some (aD x)) (hd : decode (byt y) pc = .ok (.dload a, 2)) (k : V y xt d mc ms wp z0 X0 QR QX z (pc + 2) ls (aD x :: st) X) : V y xt d mc ms wp z0 X0 QR QX z pc ls st X := by
  intro l G ad0 p e s m args below meth c C ad H locs cells slots la U hl ol os
  exact lv_dload C.1 C.2.1 hd (lget_la hl hg) (k l G ad0 p e s m args below meth c C ad H locs cells slots la U hl ol (oks_c trivial os))
theorem o_dload_n {a : Nat} {x : UInt64} (h0 : a < 4) (hg : lget a ls = some (aD x)) (hd : decode (byt y) pc = .ok (.dload_n (Fin.ofNat 4 a), 1)) (k : V y xt d mc ms wp z0 X0 QR QX z (pc + 1) ls (aD x :: st) X) : V y xt d mc ms wp z0 X0 QR QX z pc ls st X := by
  intro l G ad0 p e s m args below meth c C ad H locs cells slots la U hl ol os
  exact lv_dload_n C.1 C.2.1 hd (Nat.mod_eq_of_lt h0) (lget_la hl hg) (k l G ad0 p e s m args below meth c C ad H locs cells slots la U hl ol (oks_c trivial os))
theorem o_aload {a : Nat} {x : Av} (h1 : isRf x = true) (hg : lget a ls = some x) (hd : decode (byt y) pc = .ok (.aload a, 2)) (k : V y xt d mc ms wp z0 X0 QR QX z (pc + 2) ls (x :: st) X) : V y xt d mc ms wp z0 X0 QR QX z pc ls st X := by
  intro l G ad0 p e s m args below meth c C ad H locs cells slots la U hl ol os
  obtain ⟨q, hq⟩ := rf_cv G ad h1
  have h2 := lget_la hl hg
  rw [hq] at h2
  refine lv_aload C.1 C.2.1 hd h2 ?_
  rw [← hq]
  exact k l G ad0 p e s m args below meth c C ad H locs cells slots la U hl ol (oks_c (okl_get ol hg) os)
theorem o_aload_n {a : Nat} {x : Av} (h0 : a < 4) (h1 : isRf x = true) (hg : lget a ls = some x) (hd : decode (byt y) pc = .ok (.aload_n (Fin.ofNat 4 a), 1)) (k : V y xt d mc ms wp z0 X0 QR QX z (pc + 1) ls (x :: st) X) : V y xt d mc ms wp z0 X0 QR QX z pc ls st X := by
  intro l G ad0 p e s m args below meth c C ad H locs cells slots la U hl ol os
  obtain ⟨q, hq⟩ := rf_cv G ad h1
  have h2 := lget_la hl hg
  rw [hq] at h2
  refine lv_aload_n C.1 C.2.1 hd (Nat.mod_eq_of_lt h0) h2 ?_
  rw [← hq]
  exact k l G ad0 p e s m args below meth c C ad H locs cells slots la U hl ol (oks_c (okl_get ol hg) os)
theorem o_istore {a : Nat} {x : Int32} (h1 : a < mxl y) (hd : decode (byt y) pc = .ok (.istore a, 2)) (k : V y xt d mc ms wp z0 X0 QR QX z (pc + 2) (lset a (aI x) ls) st X) : V y xt d mc ms wp z0 X0 QR QX z pc ls (aI x :: st) X := by
  intro l G ad0 p e s m args below meth c C ad H locs cells slots la U hl ol os
  exact lv_istore C.1 C.2.1 hd hl h1 rfl (fun la2 h2 => k l G ad0 p e s m args below meth c C ad H locs cells slots la2 U (lset_has1 rfl h2) (okl_set ol trivial) (oks_t os))
theorem o_istore_n {a : Nat} {x : Int32} (h0 : a < 4) (h1 : a < mxl y) (hd : decode (byt y) pc = .ok (.istore_n (Fin.ofNat 4 a), 1)) (k : V y xt d mc ms wp z0 X0 QR QX z (pc + 1) (lset a (aI x) ls) st X) : V y xt d mc ms wp z0 X0 QR QX z pc ls (aI x :: st) X := by
  intro l G ad0 p e s m args below meth c C ad H locs cells slots la U hl ol os
  exact lv_istore_n C.1 C.2.1 hd (Nat.mod_eq_of_lt h0) hl h1 rfl (fun la2 h2 => k l G ad0 p e s m args below meth c C ad H locs cells slots la2 U (lset_has1 rfl h2) (okl_set ol trivial) (oks_t os))
theorem o_fstore {a : Nat} {x : UInt32} (h1 : a < mxl y) (hd : decode (byt y) pc = .ok (.fstore a, 2)) (k : V y xt d mc ms wp z0 X0 QR QX z (pc + 2) (lset a (aF x) ls) st X) : V y xt d mc ms wp z0 X0 QR QX z pc ls (aF x :: st) X := by
  intro l G ad0 p e s m args below meth c C ad H locs cells slots la U hl ol os
  exact lv_fstore C.1 C.2.1 hd hl h1 rfl (fun la2 h2 => k l G ad0 p e s m args below meth c C ad H locs cells slots la2 U (lset_has1 rfl h2) (okl_set ol trivial) (oks_t os))
theorem o_fstore_n {a : Nat} {x : UInt32} (h0 : a < 4) (h1 : a < mxl y) (hd : decode (byt y) pc = .ok (.fstore_n (Fin.ofNat 4 a), 1)) (k : V y xt d mc ms wp z0 X0 QR QX z (pc + 1) (lset a (aF x) ls) st X) : V y xt d mc ms wp z0 X0 QR QX z pc ls (aF x :: st) X := by
  intro l G ad0 p e s m args below meth c C ad H locs cells slots la U hl ol os
  exact lv_fstore_n C.1 C.2.1 hd (Nat.mod_eq_of_lt h0) hl h1 rfl (fun la2 h2 => k l G ad0 p e s m args below meth c C ad H locs cells slots la2 U (lset_has1 rfl h2) (okl_set ol trivial) (oks_t os))
theorem o_lstore {a : Nat} {x : Int64} (h1 : a + 1 < mxl y) (hd : decode (byt y) pc = .ok (.lstore a, 2)) (k : V y xt d mc ms wp z0 X0 QR QX z (pc + 2) (lset a (aJ x) ls) st X) : V y xt d mc ms wp z0 X0 QR QX z pc ls (aJ x :: st) X := by
  intro l G ad0 p e s m args below meth c C ad H locs cells slots la U hl ol os
  exact lv_lstore C.1 C.2.1 hd hl h1 rfl (fun la2 h2 => k l G ad0 p e s m args below meth c C ad H locs cells slots la2 U (lset_has2 rfl h2) (okl_set ol trivial) (oks_t os))
theorem o_lstore_n {a : Nat} {x : Int64} (h0 : a < 4) (h1 : a + 1 < mxl y) (hd : decode (byt y) pc = .ok (.lstore_n (Fin.ofNat 4 a), 1)) (k : V y xt d mc ms wp z0 X0 QR QX z (pc + 1) (lset a (aJ x) ls) st X) : V y xt d mc ms wp z0 X0 QR QX z pc ls (aJ x :: st) X := by
  intro l G ad0 p e s m args below meth c C ad H locs cells slots la U hl ol os
  exact lv_lstore_n C.1 C.2.1 hd (Nat.mod_eq_of_lt h0) hl h1 rfl (fun la2 h2 => k l G ad0 p e s m args below meth c C ad H locs cells slots la2 U (lset_has2 rfl h2) (okl_set ol trivial) (oks_t os))
theorem o_dstore {a : Nat} {x : UInt64} (h1 : a + 1 < mxl y) (hd : decode (byt y) pc = .ok (.dstore a, 2)) (k : V y xt d mc ms wp z0 X0 QR QX z (pc + 2) (lset a (aD x) ls) st X) : V y xt d mc ms wp z0 X0 QR QX z pc ls (aD x :: st) X := by
  intro l G ad0 p e s m args below meth c C ad H locs cells slots la U hl ol os
  exact lv_dstore C.1 C.2.1 hd hl h1 rfl (fun la2 h2 => k l G ad0 p e s m args below meth c C ad H locs cells slots la2 U (lset_has2 rfl h2) (okl_set ol trivial) (oks_t os))
theorem o_dstore_n {a : Nat} {x : UInt64} (h0 : a < 4) (h1 : a + 1 < mxl y) (hd : decode (byt y) pc = .ok (.dstore_n (Fin.ofNat 4 a), 1)) (k : V y xt d mc ms wp z0 X0 QR QX z (pc + 1) (lset a (aD x) ls) st X) : V y xt d mc ms wp z0 X0 QR QX z pc ls (aD x :: st) X := by
  intro l G ad0 p e s m args below meth c C ad H locs cells slots la U hl ol os
  exact lv_dstore_n C.1 C.2.1 hd (Nat.mod_eq_of_lt h0) hl h1 rfl (fun la2 h2 => k l G ad0 p e s m args below meth c C ad H locs cells slots la2 U (lset_has2 rfl h2) (okl_set ol trivial) (oks_t os))
theorem o_astore {a : Nat} {x : Av} (h1 : a < mxl y) (h3 : isRf x = true) (hd : decode (byt y) pc = .ok (.astore a, 2)) (k : V y xt d mc ms wp z0 X0 QR QX z (pc + 2) (lset a x ls) st X) : V y xt d mc ms wp z0 X0 QR QX z pc ls (x :: st) X := by
  intro l G ad0 p e s m args below meth c C ad H locs cells slots la U hl ol os
  obtain ⟨q, hq⟩ := rf_cv G ad h3
  have hc : cat2 x = false := by rcases x with x | x | x | x | x | x | x <;> simp [isRf, cat2] at h3 ⊢
  show W p l e (rmm d mc ms) s m args below meth c H locs cells slots _ (F0 m pc la (cv G ad x :: st.map (cv G ad)))
  rw [hq]
  refine lv_astore C.1 C.2.1 hd hl h1 rfl (fun la2 h2 => ?_)
  rw [← hq] at h2
  exact k l G ad0 p e s m args below meth c C ad H locs cells slots la2 U (lset_has1 hc h2) (okl_set ol (oks_h os)) (oks_t os)
theorem o_astore_n {a : Nat} {x : Av} (h0 : a < 4) (h1 : a < mxl y) (h3 : isRf x = true) (hd : decode (byt y) pc = .ok (.astore_n (Fin.ofNat 4 a), 1)) (k : V y xt d mc ms wp z0 X0 QR QX z (pc + 1) (lset a x ls) st X) : V y xt d mc ms wp z0 X0 QR QX z pc ls (x :: st) X := by
  intro l G ad0 p e s m args below meth c C ad H locs cells slots la U hl ol os
  obtain ⟨q, hq⟩ := rf_cv G ad h3
  have hc : cat2 x = false := by rcases x with x | x | x | x | x | x | x <;> simp [isRf, cat2] at h3 ⊢
  show W p l e (rmm d mc ms) s m args below meth c H locs cells slots _ (F0 m pc la (cv G ad x :: st.map (cv G ad)))
  rw [hq]
  refine lv_astore_n C.1 C.2.1 hd (Nat.mod_eq_of_lt h0) hl h1 rfl (fun la2 h2 => ?_)
  rw [← hq] at h2
  exact k l G ad0 p e s m args below meth c C ad H locs cells slots la2 U (lset_has1 hc h2) (okl_set ol (oks_h os)) (oks_t os)
theorem o_iinc {a : Nat} {v x : Int32} (h1 : a < mxl y) (hg : lget a ls = some (aI x)) (hd : decode (byt y) pc = .ok (.iinc a v.toInt, 3)) (k : V y xt d mc ms wp z0 X0 QR QX z (pc + 3) (lset a (aI (x + v)) ls) st X) : V y xt d mc ms wp z0 X0 QR QX z pc ls st X := by
  intro l G ad0 p e s m args below meth c C ad H locs cells slots la U hl ol os
  have hm : (a, Value.int x) ∈ ls.map (cvq G ad) := List.mem_map.mpr ⟨(a, aI x), lget_mem hg, rfl⟩
  obtain ⟨n, hn⟩ := List.getElem?_of_mem hm
  exact lv_iinc (v := x + v) C.1 C.2.1 hd hl hn (by rw [Int32.ofInt_toInt]) h1 rfl (fun la2 h2 => k l G ad0 p e s m args below meth c C ad H locs cells slots la2 U (lset_has1 (v := aI (x + v)) rfl h2) (okl_set ol trivial) os)
theorem o_ldcI {a : Nat} {v : Int32} (h0 : (cid y, a, v) ∈ KCd) (hd : decode (byt y) pc = .ok (.ldc a, 2)) (k : V y xt d mc ms wp z0 X0 QR QX z (pc + 2) ls (aI v :: st) X) : V y xt d mc ms wp z0 X0 QR QX z pc ls st X := by
  intro l G ad0 p e s m args below meth c C ad H locs cells slots la U hl ol os
  exact lv_ldc C.1 C.2.1 C.2.2.2.1 (C.2.2.2.2.1 _ (KCd_in _ h0)) hd (k l G ad0 p e s m args below meth c C ad H locs cells slots la U hl ol (oks_c trivial os))
theorem o_i2c {a : Int32} (hd : decode (byt y) pc = .ok (.i2c, 1)) (k : V y xt d mc ms wp z0 X0 QR QX z (pc + 1) ls (aI (a.toUInt32 % 65536).toInt32 :: st) X) : V y xt d mc ms wp z0 X0 QR QX z pc ls (aI a :: st) X := by
  intro l G ad0 p e s m args below meth c C ad H locs cells slots la U hl ol os
  exact lv_i2c C.1 C.2.1 hd rfl (k l G ad0 p e s m args below meth c C ad H locs cells slots la U hl ol (oks_c trivial (oks_t os)))
theorem o_dup_x1 {u v : Av} (h0 : cat2 u = false) (h1 : cat2 v = false) (hd : decode (byt y) pc = .ok (.dup_x1, 1)) (k : V y xt d mc ms wp z0 X0 QR QX z (pc + 1) ls (u :: v :: u :: st) X) : V y xt d mc ms wp z0 X0 QR QX z pc ls (u :: v :: st) X := by
  intro l G ad0 p e s m args below meth c C ad H locs cells slots la U hl ol os
  exact lv_dup_x1 C.1 C.2.1 hd (cat_cv1 h0) (cat_cv1 h1) (k l G ad0 p e s m args below meth c C ad H locs cells slots la U hl ol (oks_c (oks_h os) (oks_c (oks_h (oks_t os)) (oks_c (oks_h os) (oks_t (oks_t os))))))
end OPS
