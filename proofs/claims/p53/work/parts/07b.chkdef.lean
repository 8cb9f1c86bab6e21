/-! straight code: what the tables tell of it is what the machine does (printed by wip/whole/gen13.py) -/
def lkb (y op : Nat) (v : Int32) (a b c : Nat) : Bool :=
  match op with
  | 1 => decide ((Int8.ofInt v.toInt).toInt32 = v)
  | 2 => decide ((Int16.ofInt v.toInt).toInt32 = v)
  | 3 => cond (Nat.beq b 1) (Nat.ble a 3) true
  | 4 => cond (Nat.beq b 1) (Nat.ble a 3) true
  | 5 => cond (Nat.beq b 1) (Nat.ble a 3) true
  | 6 => cond (Nat.beq b 1) (Nat.ble a 3) true
  | 7 => cond (Nat.beq b 1) (Nat.ble a 3) true
  | 8 => cond (Nat.beq b 1) (Nat.ble a 3) true && Nat.ble (a + 1) (mxl y)
  | 9 => cond (Nat.beq b 1) (Nat.ble a 3) true && Nat.ble (a + 1) (mxl y)
  | 10 => cond (Nat.beq b 1) (Nat.ble a 3) true && Nat.ble (a + 2) (mxl y)
  | 11 => cond (Nat.beq b 1) (Nat.ble a 3) true && Nat.ble (a + 1) (mxl y)
  | 12 => cond (Nat.beq b 1) (Nat.ble a 3) true && Nat.ble (a + 2) (mxl y)
  | 13 => Nat.ble (a + 1) (mxl y)
  | 46 => Nat.ble a 1
  | 47 => decide ((cid y, a, v) ∈ LCd)
  | 50 => decide ((cid y, a, c, b) ∈ FLd)
  | 51 => decide ((cid y, a, c, b) ∈ FLd) && (Nat.ble 3 (ft c b) || decide (((vck c).2.1 b).2.2.2 = false))
  | 63 => decide ((stl[b]?).map (fun q => (q.1, q.2.1)) = some (cid y, a)) && (Nat.beq (dxl.getD b 0) c && Nat.ble (c + 1) txn)
  | 67 => decide ((cid y, a, v) ∈ KCd)
  | 80 => decide ((cid y, a, b, 0) ∈ MLd)
  | 81 => decide ((cid y, a, b, 1) ∈ MLd)
  | 82 => cond (Nat.beq c 1) (decide ((cid y, a, b) ∈ MNd)) (decide ((cid y, a, b, 2) ∈ MLd))
  | 83 => decide ((cid y, a) ∈ OBd)
  | 84 => decide ((cid y, a) ∈ MId)
  | 85 => decide ((cid y, a) ∈ MXd)
  | 86 => decide ((cid y, a) ∈ CPd)
  | 87 => decide ((cid y, a) ∈ SNd)
  | 88 => decide ((cid y, a) ∈ SCd)
  | 90 => decide ((cid y, a, b) ∈ CLd)
  | _ => true
def ln (op : Nat) (v : Int32) (b : Nat) : Nat :=
  match op with
  | 0 => 1
  | 1 => 2
  | 2 => 3
  | 3 => cond (Nat.beq b 1) 1 2
  | 4 => cond (Nat.beq b 1) 1 2
  | 5 => cond (Nat.beq b 1) 1 2
  | 6 => cond (Nat.beq b 1) 1 2
  | 7 => cond (Nat.beq b 1) 1 2
  | 8 => cond (Nat.beq b 1) 1 2
  | 9 => cond (Nat.beq b 1) 1 2
  | 10 => cond (Nat.beq b 1) 1 2
  | 11 => cond (Nat.beq b 1) 1 2
  | 12 => cond (Nat.beq b 1) 1 2
  | 13 => 3
  | 47 => 3
  | 50 => 3
  | 51 => 3
  | 63 => cond (decide (v = 1)) 3 2
  | 64 => 3
  | 65 => 3
  | 67 => 2
  | 75 => 3
  | 77 => 3
  | 78 => 3
  | 89 => 3
  | 96 => 3
  | 97 => 3
  | 98 => 3
  | 99 => 3
  | 80 => 3
  | 81 => 3
  | 82 => 3
  | 83 => 3
  | 84 => 3
  | 85 => 3
  | 86 => 3
  | 87 => 3
  | 88 => 3
  | 90 => 3
  | 91 => 2
  | 92 => 3
  | 93 => 4
  | _ => 1
def noN (op : Nat) : Bool := Nat.beq op 62 || (Nat.beq op 66 || (Nat.beq op 95 || (Nat.beq op 76 || (Nat.ble 70 op && Nat.ble op 74))))
def chk (y pc : Nat) : Bool :=
  match tb y pc with
  | (op, v, a, b, c, np) => cond (Nat.beq op 999) true (decide (decode (byt y) pc = .ok (rl pc op v a b c np)) && (lkb y op v a b c && (noN op || Nat.beq np (pc + ln op v b))))
theorem chk_by {y h : Nat} (h1 : (List.range (h + 1)).all (chk y) = true) (h2 : ∀ p, Nat.ble p h = false → tb y p = iD) : ∀ p, chk y p = true := fun p => by
  cases hb : Nat.ble p h with
  | true => exact List.all_eq_true.mp h1 p (List.mem_range.mpr (Nat.lt_succ_of_le (Nat.le_of_ble_eq_true hb)))
  | false =>
    unfold chk
    rw [h2 p hb]
    rfl
