/-! the functions of the methods (printed by wip/whole/gen20.py) -/
/-- BallotBus$Input.append -/
def fn_17_L3 (l1 : Int32) (l2 : Int32) (Y : Sm) : Option ((Int32 × Sm) ⊕ (Unit × Sm)) :=
  (if l2 < (nI 0) then some (.inr ((), Y)) else (if (nI 500) ≤ (gI Y.1 1 0 1) then some (.inl ((l2 + (-8 : Int32)), Y)) else ck (inb (gI Y.1 1 0 1) 500) <| wr (sI Y 2 0 (ix (gI Y.1 1 0 1)) (((((l1 >>> (l2 &&& 31))).toInt8.toInt32)).toInt8.toInt32)) fun Y5 => wr (sI Y5 1 0 1 ((gI Y5.1 1 0 1) + (nI 1))) fun Y6 => some (.inl ((l2 + (-8 : Int32)), Y6))))
def fn_17 (a1 : Int32) (Y : Sm) : Option (Unit × Sm) :=
  lp (fun s => fn_17_L3 a1 s.1 s.2) FU ((nI 24), Y)
/-- BallotBus.feed -/
def fn_104 (a1 : Int32) (a2 : Int32) (a3 : Int32) (a4 : Int32) (a5 : Int32) (Y : Sm) : Option (Int32 × Sm) :=
  (if (gI Y.1 1 0 1) ≤ (nI 480) then bd (fn_17 a1 Y) fun _ Y1 => bd (fn_17 a2 Y1) fun _ Y3 => bd (fn_17 a3 Y3) fun _ Y5 => bd (fn_17 a4 Y5) fun _ Y7 => bd (fn_17 a5 Y7) fun _ Y9 => some ((gI Y9.1 1 0 1), Y9) else some ((-1 : Int32), Y))
/-- BallotBus.truncate -/
def fn_105 (a1 : Int32) (Y : Sm) : Option (Int32 × Sm) :=
  (if a1 < (nI 0) then some ((nI 0), Y) else (if a1 ≤ (gI Y.1 1 0 1) then wr (sI Y 1 0 1 a1) fun Y1 => some ((nI 1), Y1) else some ((nI 0), Y)))
/-- BallotBus$Requests.clear -/
def fn_34 (i0 : Nat) (Y : Sm) : Option (Unit × Sm) :=
  wr (sI Y 12 i0 1 (nI 0)) fun Y1 => wr (sI Y1 12 i0 2 (-1 : Int32)) fun Y2 => some ((), Y2)
/-- BallotBus$Setup.setDefaults -/
def fn_53 (i0 : Nat) (Y : Sm) : Option (Unit × Sm) :=
  wr (sI Y 11 i0 0 (nI 3)) fun Y1 => wr (sI Y1 11 i0 1 (nI 6)) fun Y2 => wr (sI Y2 11 i0 2 (nI 10)) fun Y3 => wr (sI Y3 11 i0 3 (nI 0)) fun Y4 => wr (sI Y4 11 i0 4 (nI 3)) fun Y5 => some ((), Y5)
/-- BallotBus$Setup.clear -/
def fn_52 (i0 : Nat) (Y : Sm) : Option (Unit × Sm) :=
  wr (sI Y 5 i0 0 (nI 0)) fun Y1 => wr (sI Y1 5 i0 3 (nI 0)) fun Y2 => wr (sI Y2 5 i0 7 (nI 0)) fun Y3 => bd (fn_34 i0 Y3) fun _ Y4 => bd (fn_53 i0 Y4) fun _ Y6 => some ((), Y6)
/-- BallotBus$Input.byteAt -/
def fn_18 (a1 : Int32) (Y : Sm) : Option (Int32 × Sm) :=
  (if a1 < (nI 0) then some ((-1 : Int32), Y) else (if a1 < (gI Y.1 1 0 1) then ck (inb a1 500) <| some (((gI Y.1 2 0 (ix a1)) &&& (nI 255)), Y) else some ((-1 : Int32), Y)))
/-- BallotBus$Input.isBlank -/
def fn_21 (a1 : Int32) (Y : Sm) : Option (Int32 × Sm) :=
  bd (fn_18 a1 Y) fun v3 Y1 => (if v3 = (nI 32) then some ((nI 1), Y1) else (if v3 = (nI 10) then some ((nI 1), Y1) else some ((nI 0), Y1)))
/-- BallotBus$Input.isLetter -/
def fn_19 (a1 : Int32) (Y : Sm) : Option (Int32 × Sm) :=
  bd (fn_18 a1 Y) fun v3 Y1 => (if v3 < (nI 97) then some ((nI 0), Y1) else (if (nI 122) < v3 then some ((nI 0), Y1) else some ((nI 1), Y1)))
/-- BallotBus$Input.isDigit -/
def fn_20 (a1 : Int32) (Y : Sm) : Option (Int32 × Sm) :=
  bd (fn_18 a1 Y) fun v3 Y1 => (if v3 < (nI 48) then some ((nI 0), Y1) else (if (nI 57) < v3 then some ((nI 0), Y1) else some ((nI 1), Y1)))
/-- BallotBus$Tokens.advance -/
def fn_95_L8 (Y : Sm) : Option ((Sm) ⊕ ((Sm) ⊕ (Unit × Sm))) :=
  (if (gI Y.1 1 0 1) ≤ (gI Y.1 4 0 2) then some (.inr (.inl (Y))) else bd (fn_21 (gI Y.1 4 0 2) Y) fun v10 Y8 => (if v10 = (nI 0) then some (.inr (.inl (Y8))) else wr (sI Y8 4 0 2 ((gI Y8.1 4 0 2) + (nI 1))) fun Y11 => some (.inl (Y11))))
def fn_95_L158 (Y : Sm) : Option ((Sm) ⊕ (Unit × Sm)) :=
  (if (gI Y.1 1 0 1) ≤ (gI Y.1 4 0 3) then some (.inr ((), Y)) else bd (fn_20 (gI Y.1 4 0 3) Y) fun v32 Y30 => (if v32 = (nI 0) then some (.inr ((), Y30)) else wr (sI Y30 4 0 3 ((gI Y30.1 4 0 3) + (nI 1))) fun Y33 => some (.inl (Y33))))
def fn_95_L98 (Y : Sm) : Option ((Sm) ⊕ (Unit × Sm)) :=
  (if (gI Y.1 1 0 1) ≤ (gI Y.1 4 0 3) then some (.inr ((), Y)) else bd (fn_19 (gI Y.1 4 0 3) Y) fun v40 Y38 => (if v40 = (nI 0) then some (.inr ((), Y38)) else wr (sI Y38 4 0 3 ((gI Y38.1 4 0 3) + (nI 1))) fun Y41 => some (.inl (Y41))))
def fn_95_J49 (Y : Sm) : Option (Unit × Sm) :=
  wr (sI Y 4 0 3 (gI Y.1 4 0 2)) fun Y12 => (if (gI Y12.1 4 0 2) < (gI Y12.1 1 0 1) then bd (fn_19 (gI Y12.1 4 0 2) Y12) fun v15 Y13 => (if v15 = (nI 0) then bd (fn_20 (gI Y13.1 4 0 2) Y13) fun v18 Y16 => (if v18 = (nI 0) then bd (fn_18 (gI Y16.1 4 0 2) Y16) fun v21 Y19 => (if v21 = (nI 59) then wr (sI Y19 4 0 1 (nI 3)) fun Y24 => wr (sI Y24 4 0 3 ((gI Y24.1 4 0 3) + (nI 1))) fun Y25 => some ((), Y25) else wr (sI Y19 4 0 1 (nI 4)) fun Y22 => wr (sI Y22 4 0 3 ((gI Y22.1 4 0 3) + (nI 1))) fun Y23 => some ((), Y23)) else wr (sI Y16 4 0 1 (nI 2)) fun Y26 => lp (fun s => fn_95_L158 s) FU (Y26)) else wr (sI Y13 4 0 1 (nI 1)) fun Y34 => lp (fun s => fn_95_L98 s) FU (Y34)) else wr (sI Y12 4 0 1 (nI 0)) fun Y42 => some ((), Y42))
def fn_95 (Y : Sm) : Option (Unit × Sm) :=
  wr (sI Y 4 0 2 (gI Y.1 4 0 3)) fun Y1 => exd (lp (fun s => fn_95_L8 s) FU (Y1)) fun s9 => fn_95_J49 s9
/-- BallotBus$Tokens.open -/
def fn_94 (Y : Sm) : Option (Unit × Sm) :=
  wr (sI Y 4 0 3 (nI 0)) fun Y1 => bd (fn_95 Y1) fun _ Y2 => some ((), Y2)
/-- BallotBus$Tokens.size -/
def fn_96 (Y : Sm) : Option (Int32 × Sm) :=
  some (((gI Y.1 4 0 3) - (gI Y.1 4 0 2)), Y)
/-- BallotBus$Tokens.is -/
def fn_97_L23 (l1 : Nat) (l2 : Int32) (Y : Sm) : Option ((Int32 × Sm) ⊕ (Int32 × Sm)) :=
  (if (nI (slen l1)) ≤ l2 then some (.inr ((nI 1), Y)) else bd (fn_18 ((gI Y.1 4 0 2) + l2) Y) fun v9 Y7 => ck (inb l2 (slen l1)) <| (if v9 = (schr l1 (ix l2)) then some (.inl ((l2 + (nI 1)), Y7)) else some (.inr ((nI 0), Y7))))
def fn_97 (a1 : Nat) (Y : Sm) : Option (Int32 × Sm) :=
  (if (gI Y.1 4 0 1) = (nI 1) then bd (fn_96 Y) fun v3 Y1 => (if v3 = (nI (slen a1)) then lp (fun s => fn_97_L23 a1 s.1 s.2) FU ((nI 0), Y1) else some ((nI 0), Y1)) else some ((nI 0), Y))
/-- BallotBus$SetupReader.fail -/
def fn_60 (a1 : Int32) (Y : Sm) : Option (Int32 × Sm) :=
  wr (sI Y 3 0 3 a1) fun Y1 => wr (sI Y1 3 0 4 (gI Y1.1 4 0 2)) fun Y2 => some ((nI 0), Y2)
/-- BallotBus$Tokens.isNumber -/
def fn_101 (Y : Sm) : Option (Int32 × Sm) :=
  (if (gI Y.1 4 0 1) = (nI 2) then bd (fn_96 Y) fun v3 Y1 => (if (nI 3) < v3 then some ((nI 0), Y1) else some ((nI 1), Y1)) else some ((nI 0), Y))
/-- BallotBus$Tokens.number -/
def fn_102_L7 (l1 : Int32) (l2 : Int32) (Y : Sm) : Option ((Int32 × Int32 × Sm) ⊕ (Int32 × Sm)) :=
  (if (gI Y.1 4 0 3) ≤ l2 then some (.inr (l1, Y)) else bd (fn_18 l2 Y) fun v6 Y4 => some (.inl ((((l1 * (nI 10)) + v6) - (nI 48)), (l2 + (nI 1)), Y4)))
def fn_102 (Y : Sm) : Option (Int32 × Sm) :=
  lp (fun s => fn_102_L7 s.1 s.2.1 s.2.2) FU ((nI 0), (gI Y.1 4 0 2), Y)
/-- BallotBus$SetupReader.readNumber -/
def fn_69 (a1 : Int32) (a2 : Int32) (Y : Sm) : Option (Int32 × Sm) :=
  bd (fn_101 Y) fun v3 Y1 => (if v3 = (nI 0) then bd (fn_60 (nI 1) Y1) fun v17 Y15 => some ((-1 : Int32), Y15) else bd (fn_102 Y1) fun v6 Y4 => (if v6 < a1 then bd (fn_60 (nI 2) Y4) fun v9 Y7 => some ((-1 : Int32), Y7) else (if v6 ≤ a2 then bd (fn_95 Y4) fun _ Y10 => some (v6, Y10) else bd (fn_60 (nI 2) Y4) fun v14 Y12 => some ((-1 : Int32), Y12))))
/-- BallotBus$SetupReader.readSetting -/
def fn_68 (a1 : Int32) (a2 : Int32) (a3 : Int32) (Y : Sm) : Option (Int32 × Sm) :=
  (if ((gI Y.1 3 0 2) &&& ((nI 1) <<< (a1 &&& 31))) = (nI 0) then wr (sI Y 3 0 2 ((gI Y.1 3 0 2) ||| ((nI 1) <<< (a1 &&& 31)))) fun Y1 => bd (fn_95 Y1) fun _ Y2 => bd (fn_69 a2 a3 Y2) fun v6 Y4 => (if (gI Y4.1 3 0 3) = (nI 0) then (if a1 < (nI 0) then (if (gI Y4.1 3 0 3) = (nI 0) then some ((nI 1), Y4) else some ((nI 0), Y4)) else (if (nI 5) ≤ a1 then (if (gI Y4.1 3 0 3) = (nI 0) then some ((nI 1), Y4) else some ((nI 0), Y4)) else ck (inb a1 5) <| wr (sI Y4 11 (Y4.2 2) (ix a1) v6) fun Y8 => (if (gI Y8.1 3 0 3) = (nI 0) then some ((nI 1), Y8) else some ((nI 0), Y8)))) else (if (gI Y4.1 3 0 3) = (nI 0) then some ((nI 1), Y4) else some ((nI 0), Y4))) else bd (fn_60 (nI 3) Y) fun v11 Y9 => ck (bz v11) <| some (v11, Y9))
/-- BallotBus$SetupReader.readTally -/
def fn_67 (Y : Sm) : Option (Int32 × Sm) :=
  (if ((gI Y.1 3 0 2) &&& (nI 32)) = (nI 0) then wr (sI Y 3 0 2 ((gI Y.1 3 0 2) ||| (nI 32))) fun Y1 => bd (fn_95 Y1) fun _ Y2 => bd (fn_97 8 Y2) fun v6 Y4 => (if v6 = (nI 0) then bd (fn_97 9 Y4) fun v9 Y7 => (if v9 = (nI 0) then bd (fn_97 10 Y7) fun v12 Y10 => (if v12 = (nI 0) then bd (fn_60 (nI 1) Y10) fun v15 Y13 => ck (bz v15) <| some (v15, Y13) else wr (sI Y10 5 (Y10.2 2) 7 (nI 2)) fun Y17 => bd (fn_95 Y17) fun _ Y18 => some ((nI 1), Y18)) else wr (sI Y7 5 (Y7.2 2) 7 (nI 1)) fun Y20 => bd (fn_95 Y20) fun _ Y21 => some ((nI 1), Y21)) else wr (sI Y4 5 (Y4.2 2) 7 (nI 0)) fun Y23 => bd (fn_95 Y23) fun _ Y24 => some ((nI 1), Y24)) else bd (fn_60 (nI 3) Y) fun v28 Y26 => ck (bz v28) <| some (v28, Y26))
/-- BallotBus$Tokens.isQuoted -/
def fn_99 (Y : Sm) : Option (Int32 × Sm) :=
  bd (fn_97 0 Y) fun v3 Y1 => (if v3 = (nI 0) then bd (fn_97 1 Y1) fun v6 Y4 => (if v6 = (nI 0) then bd (fn_97 2 Y4) fun v9 Y7 => (if v9 = (nI 0) then bd (fn_97 3 Y7) fun v12 Y10 => (if v12 = (nI 0) then bd (fn_97 4 Y10) fun v15 Y13 => (if v15 = (nI 0) then bd (fn_97 5 Y13) fun v18 Y16 => (if v18 = (nI 0) then bd (fn_97 6 Y16) fun v21 Y19 => (if v21 = (nI 0) then bd (fn_97 7 Y19) fun v24 Y22 => (if v24 = (nI 0) then bd (fn_97 8 Y22) fun v27 Y25 => (if v27 = (nI 0) then bd (fn_97 9 Y25) fun v30 Y28 => (if v30 = (nI 0) then bd (fn_97 10 Y28) fun v33 Y31 => (if v33 = (nI 0) then bd (fn_97 11 Y31) fun v36 Y34 => (if v36 = (nI 0) then bd (fn_97 12 Y34) fun v39 Y37 => (if v39 = (nI 0) then bd (fn_97 13 Y37) fun v42 Y40 => (if v42 = (nI 0) then bd (fn_97 14 Y40) fun v45 Y43 => (if v45 = (nI 0) then bd (fn_97 15 Y43) fun v48 Y46 => (if v48 = (nI 0) then bd (fn_97 16 Y46) fun v51 Y49 => (if v51 = (nI 0) then some ((nI 0), Y49) else some ((nI 1), Y49)) else some ((nI 1), Y46)) else some ((nI 1), Y43)) else some ((nI 1), Y40)) else some ((nI 1), Y37)) else some ((nI 1), Y34)) else some ((nI 1), Y31)) else some ((nI 1), Y28)) else some ((nI 1), Y25)) else some ((nI 1), Y22)) else some ((nI 1), Y19)) else some ((nI 1), Y16)) else some ((nI 1), Y13)) else some ((nI 1), Y10)) else some ((nI 1), Y7)) else some ((nI 1), Y4)) else some ((nI 1), Y1))
/-- BallotBus$Tokens.isName -/
def fn_98 (Y : Sm) : Option (Int32 × Sm) :=
  (if (gI Y.1 4 0 1) = (nI 1) then bd (fn_96 Y) fun v3 Y1 => (if (nI 6) < v3 then some ((nI 0), Y1) else bd (fn_99 Y1) fun v6 Y4 => (if v6 = (nI 0) then some ((nI 1), Y4) else some ((nI 0), Y4))) else some ((nI 0), Y))
/-- BallotBus$Input.nameAt -/
def fn_23_L5 (l2 : Int32) (l3 : Int64) (l5 : Int32) (Y : Sm) : Option ((Int64 × Int32 × Sm) ⊕ (Int64 × Sm)) :=
  (if l2 ≤ l5 then some (.inr (l3, Y)) else bd (fn_18 l5 Y) fun v6 Y4 => some (.inl (((l3 <<< ((nI 8).toInt64 &&& 63)) ||| ((v6).toInt64)), (l5 + (nI 1)), Y4)))
def fn_23 (a1 : Int32) (a2 : Int32) (Y : Sm) : Option (Int64 × Sm) :=
  lp (fun s => fn_23_L5 a2 s.1 s.2.1 s.2.2) FU ((Int64.ofNat 0), a1, Y)
/-- BallotBus$Tokens.name -/
def fn_100 (Y : Sm) : Option (Int64 × Sm) :=
  bd (fn_23 (gI Y.1 4 0 2) (gI Y.1 4 0 3) Y) fun v3 Y1 => some (v3, Y1)
/-- BallotBus$Setup.askerNamed -/
def fn_57_L2 (l0 : Nat) (l1 : Int64) (l3 : Int32) (Y : Sm) : Option ((Int32 × Sm) ⊕ (Int32 × Sm)) :=
  (if (gI Y.1 5 l0 3) ≤ l3 then some (.inr ((-1 : Int32), Y)) else ck (inb l3 8) <| (if (lg_cmp (gJ Y.1 8 l0 (ix l3)) l1) = (nI 0) then some (.inr (l3, Y)) else some (.inl ((l3 + (nI 1)), Y))))
def fn_57 (i0 : Nat) (a1 : Int64) (Y : Sm) : Option (Int32 × Sm) :=
  lp (fun s => fn_57_L2 i0 a1 s.1 s.2) FU ((nI 0), Y)
/-- BallotBus$Setup.kindNamed -/
def fn_56_L2 (l0 : Nat) (l1 : Int64) (l3 : Int32) (Y : Sm) : Option ((Int32 × Sm) ⊕ (Int32 × Sm)) :=
  (if (gI Y.1 5 l0 0) ≤ l3 then some (.inr ((-1 : Int32), Y)) else ck (inb l3 5) <| (if (lg_cmp (gJ Y.1 6 l0 (ix l3)) l1) = (nI 0) then some (.inr (l3, Y)) else some (.inl ((l3 + (nI 1)), Y))))
def fn_56 (i0 : Nat) (a1 : Int64) (Y : Sm) : Option (Int32 × Sm) :=
  lp (fun s => fn_56_L2 i0 a1 s.1 s.2) FU ((nI 0), Y)
/-- BallotBus$Requests.add -/
def fn_36 (i0 : Nat) (a1 : Int32) (a2 : Int32) (a3 : Int32) (a4 : Int32) (a5 : Int32) (Y : Sm) : Option (Unit × Sm) :=
  (if (nI 40) ≤ (gI Y.1 12 i0 1) then some ((), Y) else ck (inb (gI Y.1 12 i0 1) 40) <| wr (sI Y 14 i0 (ix (gI Y.1 12 i0 1)) a2) fun Y2 => ck (inb (gI Y2.1 12 i0 1) 40) <| wr (sI Y2 15 i0 (ix (gI Y2.1 12 i0 1)) a3) fun Y4 => ck (inb (gI Y4.1 12 i0 1) 40) <| wr (sI Y4 16 i0 (ix (gI Y4.1 12 i0 1)) a4) fun Y6 => ck (inb (gI Y6.1 12 i0 1) 40) <| wr (sI Y6 17 i0 (ix (gI Y6.1 12 i0 1)) a4) fun Y8 => ck (inb (gI Y8.1 12 i0 1) 40) <| wr (sI Y8 18 i0 (ix (gI Y8.1 12 i0 1)) a5) fun Y10 => ck (inb (gI Y10.1 12 i0 1) 40) <| wr (sI Y10 19 i0 (ix (gI Y10.1 12 i0 1)) a1) fun Y12 => wr (sI Y12 12 i0 1 ((gI Y12.1 12 i0 1) + (nI 1))) fun Y13 => some ((), Y13))
/-- BallotBus$SetupReader.readRequest -/
def fn_66 (Y : Sm) : Option (Int32 × Sm) :=
  (if (gI Y.1 12 (Y.2 2) 1) < (nI 40) then bd (fn_95 Y) fun _ Y1 => bd (fn_98 Y1) fun v5 Y3 => (if v5 = (nI 0) then bd (fn_60 (nI 1) Y3) fun v44 Y42 => ck (bz v44) <| some (v44, Y42) else bd (fn_100 Y3) fun v8 Y6 => bd (fn_57 (Y3.2 2) v8 Y6) fun v11 Y9 => (if v11 = (-1 : Int32) then bd (fn_60 (nI 3) Y9) fun v40 Y38 => ck (bz v40) <| some (v40, Y38) else bd (fn_95 Y9) fun _ Y12 => bd (fn_98 Y12) fun v16 Y14 => (if v16 = (nI 0) then bd (fn_60 (nI 1) Y14) fun v36 Y34 => ck (bz v36) <| some (v36, Y34) else bd (fn_100 Y14) fun v19 Y17 => bd (fn_56 (Y14.2 2) v19 Y17) fun v22 Y20 => (if v22 = (-1 : Int32) then bd (fn_60 (nI 3) Y20) fun v32 Y30 => ck (bz v32) <| some (v32, Y30) else bd (fn_95 Y20) fun _ Y23 => bd (fn_69 (nI 1) (nI 20) Y23) fun v27 Y25 => bd (fn_36 (Y25.2 2) (gI Y25.1 12 (Y25.2 2) 1) v11 v22 v27 (nI 0) Y25) fun _ Y28 => (if (gI Y28.1 3 0 3) = (nI 0) then some ((nI 1), Y28) else some ((nI 0), Y28)))))) else bd (fn_60 (nI 4) Y) fun v48 Y46 => ck (bz v48) <| some (v48, Y46))
/-- BallotBus$Setup.addAsker -/
def fn_55 (i0 : Nat) (a1 : Int64) (a2 : Int32) (a3 : Int32) (Y : Sm) : Option (Unit × Sm) :=
  (if (nI 8) ≤ (gI Y.1 5 i0 3) then some ((), Y) else ck (inb (gI Y.1 5 i0 3) 8) <| wr (sJ Y 8 i0 (ix (gI Y.1 5 i0 3)) a1) fun Y2 => ck (inb (gI Y2.1 5 i0 3) 8) <| wr (sI Y2 9 i0 (ix (gI Y2.1 5 i0 3)) a2) fun Y4 => ck (inb (gI Y4.1 5 i0 3) 8) <| wr (sI Y4 10 i0 (ix (gI Y4.1 5 i0 3)) a3) fun Y6 => wr (sI Y6 5 i0 3 ((gI Y6.1 5 i0 3) + (nI 1))) fun Y7 => some ((), Y7))
/-- BallotBus$SetupReader.readAsker -/
def fn_65_J146 (l1 : Int64) (l3 : Int32) (l4 : Int32) (Y : Sm) : Option (Int32 × Sm) :=
  bd (fn_55 (Y.2 2) l1 l3 l4 Y) fun _ Y22 => (if (gI Y22.1 3 0 3) = (nI 0) then some ((nI 1), Y22) else some ((nI 0), Y22))
def fn_65 (Y : Sm) : Option (Int32 × Sm) :=
  (if (gI Y.1 5 (Y.2 2) 3) < (nI 8) then bd (fn_95 Y) fun _ Y1 => bd (fn_98 Y1) fun v5 Y3 => (if v5 = (nI 0) then bd (fn_60 (nI 1) Y3) fun v42 Y40 => ck (bz v42) <| some (v42, Y40) else bd (fn_100 Y3) fun v8 Y6 => bd (fn_57 (Y6.2 2) v8 Y6) fun v11 Y9 => (if v11 = (-1 : Int32) then bd (fn_95 Y9) fun _ Y12 => bd (fn_97 5 Y12) fun v16 Y14 => (if v16 = (nI 0) then bd (fn_60 (nI 1) Y14) fun v34 Y32 => ck (bz v34) <| some (v34, Y32) else bd (fn_95 Y14) fun _ Y17 => bd (fn_69 (nI 0) (nI 999) Y17) fun v21 Y19 => (if (gI Y19.1 3 0 3) = (nI 0) then bd (fn_97 6 Y19) fun v26 Y24 => (if v26 = (nI 0) then fn_65_J146 v8 v21 (nI 1) Y24 else bd (fn_95 Y24) fun _ Y27 => bd (fn_69 (nI 1) (nI 9) Y27) fun v31 Y29 => fn_65_J146 v8 v21 v31 Y29) else fn_65_J146 v8 v21 (nI 1) Y19)) else bd (fn_60 (nI 3) Y9) fun v38 Y36 => ck (bz v38) <| some (v38, Y36))) else bd (fn_60 (nI 4) Y) fun v46 Y44 => ck (bz v46) <| some (v46, Y44))
/-- BallotBus$SetupReader.readManner -/
def fn_64_J49 (t0 : Int32) (Y : Sm) : Option (Int32 × Sm) :=
  (if t0 = (nI 0) then some (t0, Y) else bd (fn_95 Y) fun _ Y10 => some (t0, Y10))
def fn_64 (Y : Sm) : Option (Int32 × Sm) :=
  bd (fn_97 1 Y) fun v3 Y1 => (if v3 = (nI 0) then bd (fn_97 2 Y1) fun v6 Y4 => (if v6 = (nI 0) then bd (fn_97 3 Y4) fun v9 Y7 => (if v9 = (nI 0) then fn_64_J49 (nI 0) Y7 else fn_64_J49 (nI 3) Y7) else fn_64_J49 (nI 2) Y4) else fn_64_J49 (nI 1) Y1)
/-- BallotBus$Setup.addKind -/
def fn_54 (i0 : Nat) (a1 : Int64) (a2 : Int32) (Y : Sm) : Option (Unit × Sm) :=
  (if (nI 5) ≤ (gI Y.1 5 i0 0) then some ((), Y) else ck (inb (gI Y.1 5 i0 0) 5) <| wr (sJ Y 6 i0 (ix (gI Y.1 5 i0 0)) a1) fun Y2 => ck (inb (gI Y2.1 5 i0 0) 5) <| wr (sI Y2 7 i0 (ix (gI Y2.1 5 i0 0)) a2) fun Y4 => wr (sI Y4 5 i0 0 ((gI Y4.1 5 i0 0) + (nI 1))) fun Y5 => some ((), Y5))
/-- BallotBus$SetupReader.readKind -/
def fn_63 (Y : Sm) : Option (Int32 × Sm) :=
  (if (gI Y.1 5 (Y.2 2) 0) < (nI 5) then bd (fn_95 Y) fun _ Y1 => bd (fn_98 Y1) fun v5 Y3 => (if v5 = (nI 0) then bd (fn_60 (nI 1) Y3) fun v25 Y23 => ck (bz v25) <| some (v25, Y23) else bd (fn_100 Y3) fun v8 Y6 => bd (fn_56 (Y6.2 2) v8 Y6) fun v11 Y9 => (if v11 = (-1 : Int32) then bd (fn_95 Y9) fun _ Y12 => bd (fn_64 Y12) fun v16 Y14 => bd (fn_54 (Y12.2 2) v8 v16 Y14) fun _ Y17 => some ((nI 1), Y17) else bd (fn_60 (nI 3) Y9) fun v21 Y19 => ck (bz v21) <| some (v21, Y19))) else bd (fn_60 (nI 4) Y) fun v29 Y27 => ck (bz v29) <| some (v29, Y27))
/-- BallotBus$SetupReader.readStatement -/
def fn_62 (Y : Sm) : Option (Int32 × Sm) :=
  bd (fn_97 0 Y) fun v3 Y1 => (if v3 = (nI 0) then bd (fn_97 4 Y1) fun v6 Y4 => (if v6 = (nI 0) then bd (fn_97 16 Y4) fun v9 Y7 => (if v9 = (nI 0) then bd (fn_97 7 Y7) fun v12 Y10 => (if v12 = (nI 0) then bd (fn_97 11 Y10) fun v15 Y13 => (if v15 = (nI 0) then bd (fn_97 12 Y13) fun v18 Y16 => (if v18 = (nI 0) then bd (fn_97 13 Y16) fun v21 Y19 => (if v21 = (nI 0) then bd (fn_97 14 Y19) fun v24 Y22 => (if v24 = (nI 0) then bd (fn_97 15 Y22) fun v27 Y25 => (if v27 = (nI 0) then bd (fn_60 (nI 1) Y25) fun v30 Y28 => ck (bz v30) <| some (v30, Y28) else bd (fn_68 (nI 4) (nI 1) (nI 9) Y25) fun v34 Y32 => ck (bz v34) <| some (v34, Y32)) else bd (fn_68 (nI 3) (nI 0) (nI 99) Y22) fun v38 Y36 => ck (bz v38) <| some (v38, Y36)) else bd (fn_68 (nI 2) (nI 0) (nI 99) Y19) fun v42 Y40 => ck (bz v42) <| some (v42, Y40)) else bd (fn_68 (nI 1) (nI 1) (nI 50) Y16) fun v46 Y44 => ck (bz v46) <| some (v46, Y44)) else bd (fn_68 (nI 0) (nI 1) (nI 20) Y13) fun v50 Y48 => ck (bz v50) <| some (v50, Y48)) else bd (fn_67 Y10) fun v54 Y52 => ck (bz v54) <| some (v54, Y52)) else bd (fn_66 Y7) fun v58 Y56 => ck (bz v58) <| some (v58, Y56)) else bd (fn_65 Y4) fun v62 Y60 => ck (bz v62) <| some (v62, Y60)) else bd (fn_63 Y1) fun v66 Y64 => ck (bz v66) <| some (v66, Y64))
/-- BallotBus$SetupReader.readSemicolon -/
def fn_61 (Y : Sm) : Option (Int32 × Sm) :=
  (if (gI Y.1 4 0 1) = (nI 3) then bd (fn_95 Y) fun _ Y1 => some ((nI 1), Y1) else bd (fn_60 (nI 1) Y) fun v5 Y3 => ck (bz v5) <| some (v5, Y3))
/-- BallotBus$SetupReader.read -/
def fn_59_L36 (l2 : Int32) (Y : Sm) : Option ((Int32 × Sm) ⊕ ((Sm) ⊕ (Int32 × Sm))) :=
  (if (nI 500) ≤ l2 then some (.inr (.inl (Y))) else (if (gI Y.1 3 0 3) = (nI 0) then (if (gI Y.1 4 0 1) = (nI 0) then some (.inr (.inl (Y))) else bd (fn_62 Y) fun v17 Y15 => (if v17 = (nI 0) then some (.inl ((l2 + (nI 1)), Y15)) else bd (fn_61 Y15) fun v20 Y18 => some (.inl ((l2 + (nI 1)), Y18)))) else some (.inr (.inl (Y)))))
def fn_59_J105 (Y : Sm) : Option (Int32 × Sm) :=
  bd (fn_60 (nI 5) Y) fun v23 Y21 => (if (gI Y21.1 3 0 3) = (nI 0) then some ((nI 1), Y21) else some ((nI 0), Y21))
def fn_59_J78 (Y : Sm) : Option (Int32 × Sm) :=
  (if (gI Y.1 3 0 3) = (nI 0) then (if (gI Y.1 5 (Y.2 2) 0) = (nI 0) then fn_59_J105 Y else (if (gI Y.1 5 (Y.2 2) 3) = (nI 0) then fn_59_J105 Y else (if (gI Y.1 3 0 3) = (nI 0) then some ((nI 1), Y) else some ((nI 0), Y)))) else (if (gI Y.1 3 0 3) = (nI 0) then some ((nI 1), Y) else some ((nI 0), Y)))
def fn_59 (i1 : Nat) (Y : Sm) : Option (Int32 × Sm) :=
  wr (sG Y 2 i1) fun Y1 => bd (fn_52 (Y1.2 2) Y1) fun _ Y2 => wr (sI Y2 3 0 2 (nI 0)) fun Y4 => wr (sI Y4 3 0 3 (nI 0)) fun Y5 => wr (sI Y5 3 0 4 (-1 : Int32)) fun Y6 => bd (fn_94 Y6) fun _ Y7 => exd (lp (fun s => fn_59_L36 s.1 s.2) FU ((nI 0), Y7)) fun s9 => fn_59_J78 s9
/-- BallotBus$Rows.number -/
def fn_43_22_L2 (l0 : Nat) (l1 : Int32) (Y : Sm) : Option ((Int32 × Sm) ⊕ (Unit × Sm)) :=
  (if (nI 5) ≤ l1 then some (.inr ((), Y)) else ck (inb l1 5) <| wr (sI Y 22 l0 (ix l1) l1) fun Y5 => some (.inl ((l1 + (nI 1)), Y5)))
def fn_43_22 (i0 : Nat) (Y : Sm) : Option (Unit × Sm) :=
  lp (fun s => fn_43_22_L2 i0 s.1 s.2) FU ((nI 0), Y)
/-- BallotBus$Rows.number -/
def fn_43_27_L2 (l0 : Nat) (l1 : Int32) (Y : Sm) : Option ((Int32 × Sm) ⊕ (Unit × Sm)) :=
  (if (nI 5) ≤ l1 then some (.inr ((), Y)) else ck (inb l1 5) <| wr (sI Y 27 l0 (ix l1) l1) fun Y5 => some (.inl ((l1 + (nI 1)), Y5)))
def fn_43_27 (i0 : Nat) (Y : Sm) : Option (Unit × Sm) :=
  lp (fun s => fn_43_27_L2 i0 s.1 s.2) FU ((nI 0), Y)
/-- BallotBus$Accounts.begin -/
def fn_1_L2 (l0 : Nat) (l1 : Nat) (l2 : Int32) (Y : Sm) : Option ((Int32 × Sm) ⊕ (Unit × Sm)) :=
  (if (nI 8) ≤ l2 then some (.inr ((), Y)) else ck (inb l2 8) <| wr (sI Y 29 l0 (ix l2) (gI Y.1 9 l1 (ix l2))) fun Y5 => wr (sI Y5 30 l0 (ix l2) (nI 0)) fun Y6 => wr (sI Y6 31 l0 (ix l2) (nI 0)) fun Y7 => wr (sI Y7 32 l0 (ix l2) (nI 0)) fun Y8 => wr (sI Y8 33 l0 (ix l2) (nI 0)) fun Y9 => wr (sI Y9 34 l0 (ix l2) (nI 0)) fun Y10 => some (.inl ((l2 + (nI 1)), Y10)))
def fn_1 (i0 : Nat) (i1 : Nat) (Y : Sm) : Option (Unit × Sm) :=
  lp (fun s => fn_1_L2 i0 i1 s.1 s.2) FU ((nI 0), Y)
/-- BallotBus$Requests.copyFrom -/
def fn_35 (i0 : Nat) (i1 : Nat) (Y : Sm) : Option (Unit × Sm) :=
  wr (sI Y 12 i0 1 (gI Y.1 12 i1 1)) fun Y1 => wr (sI Y1 12 i0 2 (gI Y1.1 12 i1 2)) fun Y2 => wr (sC Y2 14 i1 0 14 i0 0 40) fun Y3 => wr (sC Y3 15 i1 0 15 i0 0 40) fun Y4 => wr (sC Y4 16 i1 0 16 i0 0 40) fun Y5 => wr (sC Y5 17 i1 0 17 i0 0 40) fun Y6 => wr (sC Y6 18 i1 0 18 i0 0 40) fun Y7 => wr (sC Y7 19 i1 0 19 i0 0 40) fun Y8 => some ((), Y8)
/-- BallotBus$AnswerLog.clear -/
def fn_9 (i0 : Nat) (Y : Sm) : Option (Unit × Sm) :=
  wr (sI Y 35 i0 1 (nI 0)) fun Y1 => wr (sI Y1 35 i0 2 (nI 0)) fun Y2 => some ((), Y2)
/-- BallotBus$State.begin -/
def fn_71_L63 (l0 : Nat) (l1 : Nat) (l2 : Int32) (Y : Sm) : Option ((Int32 × Sm) ⊕ ((Sm) ⊕ (Unit × Sm))) :=
  (if (nI 5) ≤ l2 then some (.inr (.inl (Y))) else ck (inb l2 5) <| wr (sI Y 23 l0 (ix l2) (gI Y.1 7 l1 (ix l2))) fun Y19 => wr (sI Y19 24 l0 (ix l2) (nI 0)) fun Y20 => wr (sJ Y20 25 l0 (ix l2) (Int64.ofNat 0)) fun Y21 => some (.inl ((l2 + (nI 1)), Y21)))
def fn_71_L102 (l0 : Nat) (l1 : Nat) (l2 : Int32) (Y : Sm) : Option ((Int32 × Sm) ⊕ ((Sm) ⊕ (Unit × Sm))) :=
  (if (nI 8) ≤ l2 then some (.inr (.inl (Y))) else ck (inb l2 8) <| bd (fn_43_27 (8 * l0 + ix l2) Y) fun _ Y29 => some (.inl ((l2 + (nI 1)), Y29)))
def fn_71_J123 (l0 : Nat) (l1 : Nat) (Y : Sm) : Option (Unit × Sm) :=
  bd (fn_1 l0 l1 Y) fun _ Y31 => bd (fn_35 (l0 + 3) l1 Y31) fun _ Y33 => bd (fn_9 l0 Y33) fun _ Y35 => some ((), Y35)
def fn_71_J100 (l0 : Nat) (l1 : Nat) (Y : Sm) : Option (Unit × Sm) :=
  exd (lp (fun s => fn_71_L102 l0 l1 s.1 s.2) FU ((nI 0), Y)) fun s9 => fn_71_J123 l0 l1 s9
def fn_71 (i0 : Nat) (i1 : Nat) (Y : Sm) : Option (Unit × Sm) :=
  wr (sG Y (i0 + 3) i1) fun Y1 => wr (sI Y1 21 i0 1 (nI 0)) fun Y2 => wr (sI Y2 21 i0 2 (gI Y2.1 5 i1 7)) fun Y3 => wr (sI Y3 21 i0 3 (nI 0)) fun Y4 => wr (sI Y4 21 i0 4 (nI 0)) fun Y5 => wr (sI Y5 21 i0 5 (nI 0)) fun Y6 => wr (sI Y6 21 i0 6 (nI 0)) fun Y7 => wr (sI Y7 21 i0 7 (gI Y7.1 12 i1 1)) fun Y8 => wr (sI Y8 21 i0 8 (nI 0)) fun Y9 => bd (fn_43_22 i0 Y9) fun _ Y10 => exd (lp (fun s => fn_71_L63 i0 i1 s.1 s.2) FU ((nI 0), Y10)) fun s9 => fn_71_J100 i0 i1 s9
/-- BallotBus.parse -/
def fn_106 (Y : Sm) : Option (Int32 × Sm) :=
  bd (fn_59 (Y.2 1) Y) fun v3 Y1 => wr (sI Y1 1 0 1 (nI 0)) fun Y4 => wr (sI Y4 0 0 4 (gI Y4.1 3 0 3)) fun Y5 => wr (sI Y5 0 0 5 (gI Y5.1 3 0 4)) fun Y6 => (if v3 = (nI 0) then some ((-1 : Int32), Y6) else wr (sG Y6 0 (Y6.2 1)) fun Y7 => wr (sG Y7 1 (Y6.2 0)) fun Y8 => bd (fn_71 0 (Y8.2 0) Y8) fun _ Y9 => wr (sI Y9 37 0 2 (nI 0)) fun Y11 => wr (sI Y11 0 0 11 (nI 0)) fun Y12 => some ((gI Y12.1 5 (Y12.2 0) 0), Y12))
/-- BallotBus$Requests.waiting -/
def fn_41 (i0 : Nat) (Y : Sm) : Option (Int32 × Sm) :=
  (if (gI Y.1 12 i0 2) = (-1 : Int32) then some ((gI Y.1 12 i0 1), Y) else some (((gI Y.1 12 i0 1) - (nI 1)), Y))
/-- BallotBus.count -/
def fn_109_J23 (l1 : Int32) (Y : Sm) : Option (Int32 × Sm) :=
  (if l1 = (nI 0) then some ((gI Y.1 5 (Y.2 0) 0), Y) else (if l1 = (nI 1) then some ((gI Y.1 5 (Y.2 0) 3), Y) else (if l1 = (nI 2) then some ((gI Y.1 21 0 1), Y) else (if l1 = (nI 3) then some ((gI Y.1 21 0 2), Y) else (if l1 = (nI 4) then some ((-1 : Int32), Y) else (if l1 = (nI 5) then some ((-1 : Int32), Y) else (if l1 = (nI 6) then some ((-1 : Int32), Y) else (if l1 = (nI 7) then some ((-1 : Int32), Y) else (if l1 = (nI 8) then some ((-1 : Int32), Y) else (if l1 = (nI 9) then bd (fn_41 3 Y) fun v19 Y17 => some (v19, Y17) else (if l1 = (nI 10) then some ((gI Y.1 21 0 8), Y) else (if l1 = (nI 11) then some ((gI Y.1 21 0 7), Y) else (if l1 = (nI 12) then some ((gI Y.1 21 0 3), Y) else (if l1 = (nI 13) then some ((gI Y.1 21 0 5), Y) else (if l1 = (nI 14) then some ((gI Y.1 21 0 6), Y) else (if l1 = (nI 15) then some ((gI Y.1 37 0 2), Y) else some ((-1 : Int32), Y)))))))))))))))))
def fn_109 (a1 : Int32) (Y : Sm) : Option (Int32 × Sm) :=
  (if a1 < (nI 4) then fn_109_J23 a1 Y else (if (nI 9) ≤ a1 then fn_109_J23 a1 Y else ck (inb (a1 - (nI 4)) 5) <| some ((gI Y.1 11 (Y.2 0) (ix (a1 - (nI 4)))), Y)))
/-- BallotBus.checkAsker -/
def fn_154 (a1 : Int32) (Y : Sm) : Option ((Unit ⊕ Nat) × Sm) :=
  (if a1 < (nI 0) then some (.inr 0, Y) else (if a1 < (gI Y.1 5 (Y.2 0) 3) then some (.inl (), Y) else some (.inr 0, Y)))
/-- BallotBus$State.isHeard -/
def fn_73 (i0 : Nat) (a1 : Int32) (Y : Sm) : Option (Int32 × Sm) :=
  ck (inb a1 8) <| (if (gI Y.1 11 (Y.2 (i0 + 3)) 4) ≤ (gI Y.1 31 i0 (ix a1)) then some ((nI 0), Y) else some ((nI 1), Y))
/-- BallotBus$Requests.waits -/
def fn_40 (i0 : Nat) (a1 : Int32) (Y : Sm) : Option (Int32 × Sm) :=
  ck (inb a1 40) <| (if (gI Y.1 19 i0 (ix a1)) = (gI Y.1 12 i0 2) then some ((nI 0), Y) else some ((nI 1), Y))
/-- BallotBus$Requests.waitingWith -/
def fn_42_12_c0_L5 (l0 : Nat) (l2 : Int32) (l3 : Int32) (l4 : Int32) (Y : Sm) : Option ((Int32 × Int32 × Sm) ⊕ (Int32 × Sm)) :=
  (if (gI Y.1 12 l0 1) ≤ l4 then some (.inr (l3, Y)) else ck (inb l4 40) <| (if (gI Y.1 14 l0 (ix l4)) = l2 then bd (fn_40 l0 l4 Y) fun v7 Y5 => (if v7 = (nI 0) then some (.inl (l3, (l4 + (nI 1)), Y5)) else some (.inl ((l3 + (nI 1)), (l4 + (nI 1)), Y5))) else some (.inl (l3, (l4 + (nI 1)), Y))))
def fn_42_12_c0 (i0 : Nat) (a2 : Int32) (Y : Sm) : Option (Int32 × Sm) :=
  lp (fun s => fn_42_12_c0_L5 i0 a2 s.1 s.2.1 s.2.2) FU ((nI 0), (nI 0), Y)
/-- BallotBus.asker -/
def fn_111 (a1 : Int32) (a2 : Int32) (Y : Sm) : Option ((Int32 ⊕ Nat) × Sm) :=
  bx (fn_154 a1 Y) (fun x26 Y1 => some (.inr x26, Y1)) fun _ Y1 => (if a2 = (nI 0) then ck (inb a1 8) <| some (.inl (gI Y1.1 29 0 (ix a1)), Y1) else (if a2 = (nI 1) then ck (inb a1 8) <| some (.inl (gI Y1.1 30 0 (ix a1)), Y1) else (if a2 = (nI 2) then ck (inb a1 8) <| some (.inl (gI Y1.1 10 (Y1.2 0) (ix a1)), Y1) else (if a2 = (nI 3) then ck (inb a1 8) <| some (.inl (gI Y1.1 31 0 (ix a1)), Y1) else (if a2 = (nI 4) then bd (fn_73 0 a1 Y1) fun v19 Y17 => (if v19 = (nI 0) then some (.inl (nI 0), Y17) else some (.inl (nI 1), Y17)) else (if a2 = (nI 5) then (if (gI Y1.1 21 0 3) = a1 then (if (gI Y1.1 21 0 4) = (nI 0) then some (.inl (nI 0), Y1) else some (.inl (nI 1), Y1)) else some (.inl (nI 0), Y1)) else (if a2 = (nI 6) then bd (fn_42_12_c0 3 a1 Y1) fun v22 Y20 => some (.inl v22, Y20) else (if a2 = (nI 7) then ck (inb a1 8) <| some (.inl (gI Y1.1 32 0 (ix a1)), Y1) else (if a2 = (nI 8) then ck (inb a1 8) <| some (.inl (gI Y1.1 33 0 (ix a1)), Y1) else (if a2 = (nI 9) then ck (inb a1 8) <| some (.inl (gI Y1.1 34 0 (ix a1)), Y1) else some (.inr 0, Y1)))))))))))
/-- BallotBus.checkKind -/
def fn_155 (a1 : Int32) (Y : Sm) : Option ((Unit ⊕ Nat) × Sm) :=
  (if a1 < (nI 0) then some (.inr 0, Y) else (if a1 < (gI Y.1 5 (Y.2 0) 0) then some (.inl (), Y) else some (.inr 0, Y)))
/-- BallotBus$Requests.waitingWith -/
def fn_42_12_c1_L5 (l0 : Nat) (l2 : Int32) (l3 : Int32) (l4 : Int32) (Y : Sm) : Option ((Int32 × Int32 × Sm) ⊕ (Int32 × Sm)) :=
  (if (gI Y.1 12 l0 1) ≤ l4 then some (.inr (l3, Y)) else ck (inb l4 40) <| (if (gI Y.1 15 l0 (ix l4)) = l2 then bd (fn_40 l0 l4 Y) fun v7 Y5 => (if v7 = (nI 0) then some (.inl (l3, (l4 + (nI 1)), Y5)) else some (.inl ((l3 + (nI 1)), (l4 + (nI 1)), Y5))) else some (.inl (l3, (l4 + (nI 1)), Y))))
def fn_42_12_c1 (i0 : Nat) (a2 : Int32) (Y : Sm) : Option (Int32 × Sm) :=
  lp (fun s => fn_42_12_c1_L5 i0 a2 s.1 s.2.1 s.2.2) FU ((nI 0), (nI 0), Y)
/-- BallotBus$Rows.placeOf -/
def fn_45_22_L2 (l0 : Nat) (l1 : Int32) (l2 : Int32) (l3 : Int32) (Y : Sm) : Option ((Int32 × Sm) ⊕ (Int32 × Sm)) :=
  (if l1 ≤ l3 then some (.inr ((-1 : Int32), Y)) else (if (nI 5) ≤ l3 then some (.inr ((-1 : Int32), Y)) else ck (inb l3 5) <| (if (gI Y.1 22 l0 (ix l3)) = l2 then some (.inr (l3, Y)) else some (.inl ((l3 + (nI 1)), Y)))))
def fn_45_22 (i0 : Nat) (a1 : Int32) (a2 : Int32) (Y : Sm) : Option (Int32 × Sm) :=
  lp (fun s => fn_45_22_L2 i0 a1 a2 s.1 s.2) FU ((nI 0), Y)
/-- BallotBus$State.isVetoed -/
def fn_74 (i0 : Nat) (a1 : Int32) (Y : Sm) : Option (Int32 × Sm) :=
  (if ((gI Y.1 21 i0 5) &&& ((nI 1) <<< (a1 &&& 31))) = (nI 0) then some ((nI 0), Y) else some ((nI 1), Y))
/-- BallotBus$State.isInLine -/
def fn_79 (i0 : Nat) (a1 : Int32) (a2 : Int32) (Y : Sm) : Option (Int32 × Sm) :=
  ck (inb a1 40) <| (if (gI Y.1 15 (i0 + 3) (ix a1)) = a2 then bd (fn_40 (i0 + 3) a1 Y) fun v4 Y2 => (if v4 = (nI 0) then some ((nI 0), Y2) else some ((nI 1), Y2)) else some ((nI 0), Y))
/-- BallotBus$State.rankInLine -/
def fn_80 (i0 : Nat) (a1 : Int32) (Y : Sm) : Option (Int32 × Sm) :=
  ck (inb a1 40) <| ck (inb (gI Y.1 15 (i0 + 3) (ix a1)) 5) <| (if (gI Y.1 23 i0 (ix (gI Y.1 15 (i0 + 3) (ix a1)))) = (nI 1) then some ((gI Y.1 16 (i0 + 3) (ix a1)), Y) else (if (gI Y.1 23 i0 (ix (gI Y.1 15 (i0 + 3) (ix a1)))) = (nI 2) then ck (inb (gI Y.1 14 (i0 + 3) (ix a1)) 8) <| some ((-(gI Y.1 29 i0 (ix (gI Y.1 14 (i0 + 3) (ix a1))))), Y) else (if (gI Y.1 23 i0 (ix (gI Y.1 15 (i0 + 3) (ix a1)))) = (nI 3) then ck (inb (gI Y.1 14 (i0 + 3) (ix a1)) 8) <| some ((-(gI Y.1 30 i0 (ix (gI Y.1 14 (i0 + 3) (ix a1))))), Y) else some ((nI 0), Y))))
/-- BallotBus$State.firstOf -/
def fn_76_L4 (l0 : Nat) (l1 : Int32) (l2 : Int32) (l3 : Int32) (Y : Sm) : Option ((Int32 × Int32 × Sm) ⊕ (Int32 × Sm)) :=
  (if (gI Y.1 12 (l0 + 3) 1) ≤ l3 then some (.inr (l2, Y)) else bd (fn_79 l0 l3 l1 Y) fun v6 Y4 => (if v6 = (nI 0) then some (.inl (l2, (l3 + (nI 1)), Y4)) else (if l2 = (-1 : Int32) then some (.inl (l3, (l3 + (nI 1)), Y4)) else bd (fn_80 l0 l3 Y4) fun v9 Y7 => bd (fn_80 l0 l2 Y7) fun v12 Y10 => (if v12 ≤ v9 then some (.inl (l2, (l3 + (nI 1)), Y10)) else some (.inl (l3, (l3 + (nI 1)), Y10))))))
def fn_76 (i0 : Nat) (a1 : Int32) (Y : Sm) : Option (Int32 × Sm) :=
  lp (fun s => fn_76_L4 i0 a1 s.1 s.2.1 s.2.2) FU ((-1 : Int32), (nI 0), Y)
/-- BallotBus$Requests.serialAt -/
def fn_39 (i0 : Nat) (a1 : Int32) (Y : Sm) : Option (Int32 × Sm) :=
  (if a1 < (nI 0) then some ((-1 : Int32), Y) else (if a1 < (gI Y.1 12 i0 1) then ck (inb a1 40) <| some ((gI Y.1 19 i0 (ix a1)), Y) else some ((-1 : Int32), Y)))
/-- BallotBus.kind -/
def fn_112 (a1 : Int32) (a2 : Int32) (Y : Sm) : Option ((Int32 ⊕ Nat) × Sm) :=
  bx (fn_155 a1 Y) (fun x26 Y1 => some (.inr x26, Y1)) fun _ Y1 => (if a2 = (nI 0) then ck (inb a1 5) <| some (.inl (gI Y1.1 23 0 (ix a1)), Y1) else (if a2 = (nI 1) then bd (fn_42_12_c1 3 a1 Y1) fun v12 Y10 => some (.inl v12, Y10) else (if a2 = (nI 2) then ck (inb a1 5) <| some (.inl (gI Y1.1 24 0 (ix a1)), Y1) else (if a2 = (nI 3) then bd (fn_45_22 0 (gI Y1.1 5 (Y1.2 0) 0) a1 Y1) fun v16 Y14 => some (.inl v16, Y14) else (if a2 = (nI 4) then bd (fn_74 0 a1 Y1) fun v19 Y17 => (if v19 = (nI 0) then some (.inl (nI 0), Y17) else some (.inl (nI 1), Y17)) else (if a2 = (nI 5) then bd (fn_76 0 a1 Y1) fun v22 Y20 => bd (fn_39 3 v22 Y20) fun v25 Y23 => some (.inl v25, Y23) else some (.inr 0, Y1)))))))
/-- BallotBus.order -/
def fn_114 (a1 : Int32) (Y : Sm) : Option ((Int32 ⊕ Nat) × Sm) :=
  bx (fn_155 a1 Y) (fun x4 Y1 => some (.inr x4, Y1)) fun _ Y1 => ck (inb a1 5) <| some (.inl (gI Y1.1 22 0 (ix a1)), Y1)
/-- BallotBus$Requests.indexOf -/
def fn_38_L2 (l0 : Nat) (l1 : Int32) (l2 : Int32) (Y : Sm) : Option ((Int32 × Sm) ⊕ (Int32 × Sm)) :=
  (if (gI Y.1 12 l0 1) ≤ l2 then some (.inr ((-1 : Int32), Y)) else ck (inb l2 40) <| (if (gI Y.1 19 l0 (ix l2)) = l1 then some (.inr (l2, Y)) else some (.inl ((l2 + (nI 1)), Y))))
def fn_38 (i0 : Nat) (a1 : Int32) (Y : Sm) : Option (Int32 × Sm) :=
  lp (fun s => fn_38_L2 i0 a1 s.1 s.2) FU ((nI 0), Y)
/-- BallotBus.indexOfRequest -/
def fn_158 (a1 : Int32) (Y : Sm) : Option ((Int32 ⊕ Nat) × Sm) :=
  bd (fn_38 3 a1 Y) fun v3 Y1 => (if v3 = (-1 : Int32) then some (.inr 3, Y1) else some (.inl v3, Y1))
/-- BallotBus.request -/
def fn_115 (a1 : Int32) (a2 : Int32) (Y : Sm) : Option ((Int32 ⊕ Nat) × Sm) :=
  (if a2 < (nI 0) then some (.inr 1, Y) else (if a2 ≤ (nI 4) then if a2 = (nI 0) then bx (fn_158 a1 Y) (fun x5 Y1 => some (.inr x5, Y1)) fun v3 Y1 => ck (inb v3 40) <| some (.inl (gI Y1.1 14 3 (ix v3)), Y1) else if a2 = (nI 1) then bx (fn_158 a1 Y) (fun x12 Y8 => some (.inr x12, Y8)) fun v10 Y8 => ck (inb v10 40) <| some (.inl (gI Y8.1 15 3 (ix v10)), Y8) else if a2 = (nI 2) then bx (fn_158 a1 Y) (fun x19 Y15 => some (.inr x19, Y15)) fun v17 Y15 => ck (inb v17 40) <| some (.inl (gI Y15.1 16 3 (ix v17)), Y15) else if a2 = (nI 3) then bx (fn_158 a1 Y) (fun x26 Y22 => some (.inr x26, Y22)) fun v24 Y22 => ck (inb v24 40) <| some (.inl (gI Y22.1 17 3 (ix v24)), Y22) else if a2 = (nI 4) then bx (fn_158 a1 Y) (fun x33 Y29 => some (.inr x33, Y29)) fun v31 Y29 => ck (inb v31 40) <| some (.inl (gI Y29.1 18 3 (ix v31)), Y29) else if a2 = (nI 5) then bx (fn_158 a1 Y) (fun x40 Y36 => some (.inr x40, Y36)) fun v38 Y36 => ck (inb v38 40) <| some (.inl (gI Y36.1 19 3 (ix v38)), Y36) else none else some (.inr 1, Y)))
/-- BallotBus$State.numberAhead -/
def fn_78_L12 (l0 : Nat) (l1 : Int32) (l2 : Int32) (l4 : Int32) (l3 : Int32) (l5 : Int32) (Y : Sm) : Option ((Int32 × Int32 × Sm) ⊕ (Int32 × Sm)) :=
  (if (gI Y.1 12 (l0 + 3) 1) ≤ l5 then some (.inr (l3, Y)) else bd (fn_79 l0 l5 l2 Y) fun v9 Y7 => (if v9 = (nI 0) then some (.inl (l3, (l5 + (nI 1)), Y7)) else bd (fn_80 l0 l5 Y7) fun v12 Y10 => (if v12 < l4 then some (.inl ((l3 + (nI 1)), (l5 + (nI 1)), Y10)) else bd (fn_80 l0 l5 Y10) fun v15 Y13 => (if v15 = l4 then (if l1 ≤ l5 then some (.inl (l3, (l5 + (nI 1)), Y13)) else some (.inl ((l3 + (nI 1)), (l5 + (nI 1)), Y13))) else some (.inl (l3, (l5 + (nI 1)), Y13))))))
def fn_78 (i0 : Nat) (a1 : Int32) (a2 : Int32) (Y : Sm) : Option (Int32 × Sm) :=
  bd (fn_80 i0 a1 Y) fun v3 Y1 => lp (fun s => fn_78_L12 i0 a1 a2 v3 s.1 s.2.1 s.2.2) FU ((nI 0), (nI 0), Y1)
/-- BallotBus$State.inLine -/
def fn_77_L2 (l0 : Nat) (l1 : Int32) (l2 : Int32) (l3 : Int32) (Y : Sm) : Option ((Int32 × Sm) ⊕ (Int32 × Sm)) :=
  (if (gI Y.1 12 (l0 + 3) 1) ≤ l3 then some (.inr ((-1 : Int32), Y)) else bd (fn_79 l0 l3 l1 Y) fun v6 Y4 => (if v6 = (nI 0) then some (.inl ((l3 + (nI 1)), Y4)) else bd (fn_78 l0 l3 l1 Y4) fun v9 Y7 => (if v9 = l2 then some (.inr (l3, Y7)) else some (.inl ((l3 + (nI 1)), Y7)))))
def fn_77 (i0 : Nat) (a1 : Int32) (a2 : Int32) (Y : Sm) : Option (Int32 × Sm) :=
  lp (fun s => fn_77_L2 i0 a1 a2 s.1 s.2) FU ((nI 0), Y)
/-- BallotBus.line -/
def fn_116 (a1 : Int32) (a2 : Int32) (Y : Sm) : Option ((Int32 ⊕ Nat) × Sm) :=
  bx (fn_155 a1 Y) (fun x9 Y1 => some (.inr x9, Y1)) fun _ Y1 => bd (fn_77 0 a1 a2 Y1) fun v5 Y3 => (if v5 = (-1 : Int32) then some (.inr 3, Y3) else bd (fn_39 3 v5 Y3) fun v8 Y6 => some (.inl v8, Y6))
/-- BallotBus.progress -/
def fn_117 (Y : Sm) : Option (Int32 × Sm) :=
  some ((gI Y.1 12 3 2), Y)
/-- BallotBus$Poll.clear -/
def fn_26_L33_d1 (l2 : Int32) (l3 : Int32) (Y : Sm) : Option ((Int32 × Sm) ⊕ ((Int32 × Sm) ⊕ (Unit × Sm))) :=
  (if (nI 5) ≤ l3 then some (.inr (.inl ((l2 + (nI 1)), Y))) else ck (inb l2 5) <| ck (inb l3 5) <| wr (sI Y 43 (ix l2) (ix l3) (nI 0)) fun Y14 => wr (sI Y14 45 (ix l2) (ix l3) (nI 0)) fun Y15 => some (.inl ((l3 + (nI 1)), Y15)))
def fn_26_L12 (l2 : Int32) (Y : Sm) : Option ((Int32 × Sm) ⊕ (Unit × Sm)) :=
  (if (nI 5) ≤ l2 then some (.inr ((), Y)) else ck (inb l2 5) <| wr (sI Y 40 0 (ix l2) (nI 0)) fun Y7 => wr (sI Y7 41 0 (ix l2) (nI 0)) fun Y8 => lp (fun s => fn_26_L33_d1 l2 s.1 s.2) FU ((nI 0), Y8))
def fn_26 (a1 : Int32) (Y : Sm) : Option (Unit × Sm) :=
  wr (sI Y 39 0 0 a1) fun Y1 => wr (sI Y1 39 0 1 (nI 0)) fun Y2 => lp (fun s => fn_26_L12 s.1 s.2) FU ((nI 0), Y2)
/-- BallotBus$Poll.addBallot -/
def fn_27_L63_d1 (l1 : Nat) (l2 : Int32) (l3 : Int32) (l4 : Int32) (l5 : Int32) (Y : Sm) : Option ((Int32 × Sm) ⊕ ((Int32 × Sm) ⊕ (Unit × Sm))) :=
  (if (gI Y.1 39 0 0) ≤ l5 then some (.inr (.inl ((l3 + (nI 1)), Y))) else ck (inb l4 5) <| ck (inb l5 5) <| ck (inb (gI Y.1 27 l1 (ix l5)) 5) <| wr (sI Y 45 (ix l4) (ix (gI Y.1 27 l1 (ix l5))) ((gI Y.1 45 (ix l4) (ix (gI Y.1 27 l1 (ix l5)))) + l2)) fun Y15 => some (.inl ((l5 + (nI 1)), Y15)))
def fn_27_L12 (l1 : Nat) (l2 : Int32) (l3 : Int32) (Y : Sm) : Option ((Int32 × Sm) ⊕ (Unit × Sm)) :=
  (if (gI Y.1 39 0 0) ≤ l3 then some (.inr ((), Y)) else ck (inb l3 5) <| ck (inb (gI Y.1 27 l1 (ix l3)) 5) <| wr (sI Y 40 0 (ix (gI Y.1 27 l1 (ix l3))) ((gI Y.1 40 0 (ix (gI Y.1 27 l1 (ix l3)))) + (l2 * (((gI Y.1 39 0 0) - (nI 1)) - l3)))) fun Y7 => wr (sI Y7 43 (ix (gI Y.1 27 l1 (ix l3))) (ix l3) ((gI Y7.1 43 (ix (gI Y.1 27 l1 (ix l3))) (ix l3)) + l2)) fun Y8 => lp (fun s => fn_27_L63_d1 l1 l2 l3 (gI Y.1 27 l1 (ix l3)) s.1 s.2) FU ((l3 + (nI 1)), Y8))
def fn_27 (i1 : Nat) (a2 : Int32) (Y : Sm) : Option (Unit × Sm) :=
  wr (sI Y 39 0 1 ((gI Y.1 39 0 1) + a2)) fun Y1 => lp (fun s => fn_27_L12 i1 a2 s.1 s.2) FU ((nI 0), Y1)
/-- BallotBus$Poll.defeats -/
def fn_28 (a1 : Int32) (a2 : Int32) (Y : Sm) : Option (Int32 × Sm) :=
  ck (inb a1 5) <| ck (inb a2 5) <| (if (gI Y.1 45 (ix a1) (ix a2)) ≤ (gI Y.1 45 (ix a2) (ix a1)) then some ((nI 0), Y) else some ((nI 1), Y))
/-- BallotBus$Poll.countVotes -/
def fn_25_L13 (l1 : Nat) (l2 : Int32) (l3 : Int32) (Y : Sm) : Option ((Int32 × Sm) ⊕ ((Sm) ⊕ (Unit × Sm))) :=
  (if (gI Y.1 5 (Y.2 (l1 + 3)) 3) ≤ l3 then some (.inr (.inl (Y))) else (if l3 = l2 then some (.inl ((l3 + (nI 1)), Y)) else bd (fn_73 l1 l3 Y) fun v11 Y9 => (if v11 = (nI 0) then some (.inl ((l3 + (nI 1)), Y9)) else ck (inb l3 8) <| bd (fn_27 (8 * l1 + ix l3) (gI Y9.1 10 (Y9.2 (l1 + 3)) (ix l3)) Y9) fun _ Y13 => some (.inl ((l3 + (nI 1)), Y13)))))
def fn_25_L75_d1 (l3 : Int32) (l4 : Int32) (Y : Sm) : Option ((Int32 × Sm) ⊕ ((Int32 × Sm) ⊕ (Unit × Sm))) :=
  (if (gI Y.1 39 0 0) ≤ l4 then some (.inr (.inl ((l3 + (nI 1)), Y))) else bd (fn_28 l3 l4 Y) fun v23 Y21 => (if v23 = (nI 0) then some (.inl ((l4 + (nI 1)), Y21)) else ck (inb l3 5) <| wr (sI Y21 41 0 (ix l3) ((gI Y21.1 41 0 (ix l3)) + (nI 1))) fun Y25 => some (.inl ((l4 + (nI 1)), Y25))))
def fn_25_L64 (l3 : Int32) (Y : Sm) : Option ((Int32 × Sm) ⊕ (Unit × Sm)) :=
  (if (gI Y.1 39 0 0) ≤ l3 then some (.inr ((), Y)) else lp (fun s => fn_25_L75_d1 l3 s.1 s.2) FU ((nI 0), Y))
def fn_25_J62 (Y : Sm) : Option (Unit × Sm) :=
  lp (fun s => fn_25_L64 s.1 s.2) FU ((nI 0), Y)
def fn_25 (i1 : Nat) (a2 : Int32) (Y : Sm) : Option (Unit × Sm) :=
  bd (fn_26 (gI Y.1 5 (Y.2 (i1 + 3)) 0) Y) fun _ Y1 => exd (lp (fun s => fn_25_L13 i1 a2 s.1 s.2) FU ((nI 0), Y1)) fun s9 => fn_25_J62 s9
/-- BallotBus.points -/
def fn_119 (a1 : Int32) (Y : Sm) : Option ((Int32 ⊕ Nat) × Sm) :=
  bx (fn_155 a1 Y) (fun x6 Y1 => some (.inr x6, Y1)) fun _ Y1 => bd (fn_25 0 (-1 : Int32) Y1) fun _ Y3 => ck (inb a1 5) <| some (.inl (gI Y3.1 40 0 (ix a1)), Y3)
/-- BallotBus.wins -/
def fn_122 (a1 : Int32) (Y : Sm) : Option ((Int32 ⊕ Nat) × Sm) :=
  bx (fn_155 a1 Y) (fun x6 Y1 => some (.inr x6, Y1)) fun _ Y1 => bd (fn_25 0 (-1 : Int32) Y1) fun _ Y3 => ck (inb a1 5) <| some (.inl (gI Y3.1 41 0 (ix a1)), Y3)
/-- BallotBus.champion -/
def fn_123_L26 (l1 : Int32) (Y : Sm) : Option ((Int32 × Sm) ⊕ (Int32 × Sm)) :=
  (if (gI Y.1 5 (Y.2 0) 0) ≤ l1 then some (.inr ((-1 : Int32), Y)) else ck (inb l1 5) <| (if (gI Y.1 41 0 (ix l1)) = ((gI Y.1 5 (Y.2 0) 0) - (nI 1)) then some (.inr (l1, Y)) else some (.inl ((l1 + (nI 1)), Y))))
def fn_123 (Y : Sm) : Option (Int32 × Sm) :=
  bd (fn_25 0 (-1 : Int32) Y) fun _ Y1 => (if (gI Y1.1 39 0 1) = (nI 0) then some ((-1 : Int32), Y1) else lp (fun s => fn_123_L26 s.1 s.2) FU ((nI 0), Y1))
/-- BallotBus.checkTally -/
def fn_156 (a1 : Int32) (Y : Sm) : Option ((Unit ⊕ Nat) × Sm) :=
  (if a1 < (nI 0) then some (.inr 1, Y) else (if a1 ≤ (nI 2) then some (.inl (), Y) else some (.inr 1, Y)))
/-- BallotBus$Rows.copy -/
def fn_44_22_46 (i0 : Nat) (Y : Sm) : Option (Unit × Sm) :=
  wr (sC Y 22 i0 0 46 0 0 5) fun Y1 => some ((), Y1)
/-- BallotBus$Poll.hasMoreFirsts -/
def fn_32_L2 (l1 : Int32) (l2 : Int32) (l3 : Int32) (Y : Sm) : Option ((Int32 × Sm) ⊕ ((Int32 × Sm) ⊕ (Int32 × Sm))) :=
  (if (gI Y.1 39 0 0) ≤ l3 then some (.inr (.inr ((nI 0), Y))) else ck (inb l1 5) <| ck (inb l3 5) <| ck (inb l2 5) <| (if (gI Y.1 43 (ix l1) (ix l3)) = (gI Y.1 43 (ix l2) (ix l3)) then some (.inl ((l3 + (nI 1)), Y)) else some (.inr (.inl (l3, Y)))))
def fn_32_J29 (l1 : Int32) (l2 : Int32) (l3 : Int32) (Y : Sm) : Option (Int32 × Sm) :=
  ck (inb l1 5) <| ck (inb l3 5) <| ck (inb l2 5) <| (if (gI Y.1 43 (ix l1) (ix l3)) ≤ (gI Y.1 43 (ix l2) (ix l3)) then some ((nI 0), Y) else some ((nI 1), Y))
def fn_32 (a1 : Int32) (a2 : Int32) (Y : Sm) : Option (Int32 × Sm) :=
  exd (lp (fun s => fn_32_L2 a1 a2 s.1 s.2) FU ((nI 0), Y)) fun s9 => fn_32_J29 a1 a2 s9.1 s9.2
/-- BallotBus$Poll.isAbove -/
def fn_31_J53 (l1 : Int32) (l2 : Int32) (Y : Sm) : Option (Int32 × Sm) :=
  ck (inb l1 5) <| ck (inb l2 5) <| (if (gI Y.1 40 0 (ix l1)) ≤ (gI Y.1 40 0 (ix l2)) then some ((nI 0), Y) else some ((nI 1), Y))
def fn_31 (a1 : Int32) (a2 : Int32) (a3 : Int32) (Y : Sm) : Option (Int32 × Sm) :=
  (if a3 = (nI 1) then bd (fn_32 a1 a2 Y) fun v7 Y5 => ck (bz v7) <| some (v7, Y5) else (if a3 = (nI 2) then ck (inb a1 5) <| ck (inb a2 5) <| (if (gI Y.1 41 0 (ix a1)) = (gI Y.1 41 0 (ix a2)) then fn_31_J53 a1 a2 Y else (if (gI Y.1 41 0 (ix a1)) ≤ (gI Y.1 41 0 (ix a2)) then some ((nI 0), Y) else some ((nI 1), Y))) else fn_31_J53 a1 a2 Y))
/-- BallotBus$Poll.rank -/
def fn_30_39_46_L21_d1 (l1 : Int32) (l3 : Int32) (l4 : Int32) (Y : Sm) : Option ((Int32 × Sm) ⊕ ((Int32 × Sm) ⊕ (Unit × Sm))) :=
  (if l4 ≤ (nI 0) then ck (inb l4 5) <| wr (sI Y 46 0 (ix l4) l3) fun Y8 => some (.inr (.inl ((l3 + (nI 1)), Y8))) else ck (inb (l4 - (nI 1)) 5) <| bd (fn_31 l3 (gI Y.1 46 0 (ix (l4 - (nI 1)))) l1 Y) fun v12 Y10 => (if v12 = (nI 0) then ck (inb l4 5) <| wr (sI Y10 46 0 (ix l4) l3) fun Y14 => some (.inr (.inl ((l3 + (nI 1)), Y14))) else ck (inb l4 5) <| wr (sI Y10 46 0 (ix l4) (gI Y10.1 46 0 (ix (l4 - (nI 1))))) fun Y16 => some (.inl ((l4 + (-1 : Int32)), Y16))))
def fn_30_39_46_L10 (l1 : Int32) (l3 : Int32) (Y : Sm) : Option ((Int32 × Sm) ⊕ (Unit × Sm)) :=
  (if (gI Y.1 39 0 0) ≤ l3 then some (.inr ((), Y)) else lp (fun s => fn_30_39_46_L21_d1 l1 l3 s.1 s.2) FU (l3, Y))
def fn_30_39_46 (a1 : Int32) (Y : Sm) : Option (Unit × Sm) :=
  (if (gI Y.1 39 0 1) = (nI 0) then some ((), Y) else lp (fun s => fn_30_39_46_L10 a1 s.1 s.2) FU ((nI 0), Y))
/-- BallotBus.voteNow -/
def fn_159_0_46 (a1 : Int32) (a2 : Int32) (Y : Sm) : Option (Unit × Sm) :=
  bd (fn_25 0 a2 Y) fun _ Y1 => bd (fn_44_22_46 0 Y1) fun _ Y3 => bd (fn_30_39_46 a1 Y3) fun _ Y5 => some ((), Y5)
/-- BallotBus.voted -/
def fn_124 (a1 : Int32) (a2 : Int32) (Y : Sm) : Option ((Int32 ⊕ Nat) × Sm) :=
  bx (fn_155 a2 Y) (fun x11 Y1 => some (.inr x11, Y1)) fun _ Y1 => bx (fn_156 a1 Y1) (fun x8 Y3 => some (.inr x8, Y3)) fun _ Y3 => bd (fn_159_0_46 a1 (-1 : Int32) Y3) fun _ Y5 => ck (inb a2 5) <| some (.inl (gI Y5.1 46 0 (ix a2)), Y5)
/-- BallotBus.debts -/
def fn_132_L4 (l1 : Int32) (l2 : Int32) (Y : Sm) : Option ((Int32 × Int32 × Sm) ⊕ (Int32 × Sm)) :=
  (if (gI Y.1 5 (Y.2 0) 3) ≤ l2 then some (.inr (l1, Y)) else ck (inb l2 8) <| some (.inl ((l1 + (gI Y.1 30 0 (ix l2))), (l2 + (nI 1)), Y)))
def fn_132 (Y : Sm) : Option (Int32 × Sm) :=
  lp (fun s => fn_132_L4 s.1 s.2.1 s.2.2) FU ((nI 0), (nI 0), Y)
/-- BallotBus.checkTicks -/
def fn_157 (a1 : Int32) (a2 : Int32) (Y : Sm) : Option ((Unit ⊕ Nat) × Sm) :=
  (if a1 < (nI 1) then some (.inr 1, Y) else (if a1 ≤ a2 then some (.inl (), Y) else some (.inr 1, Y)))
/-- BallotBus$Rows.copy -/
def fn_44_22_22 (i0 : Nat) (i1 : Nat) (Y : Sm) : Option (Unit × Sm) :=
  wr (sC Y 22 i0 0 22 i1 0 5) fun Y1 => some ((), Y1)
/-- BallotBus$Rows.copy -/
def fn_44_23_23 (i0 : Nat) (i1 : Nat) (Y : Sm) : Option (Unit × Sm) :=
  wr (sC Y 23 i0 0 23 i1 0 5) fun Y1 => some ((), Y1)
/-- BallotBus$Rows.copy -/
def fn_44_24_24 (i0 : Nat) (i1 : Nat) (Y : Sm) : Option (Unit × Sm) :=
  wr (sC Y 24 i0 0 24 i1 0 5) fun Y1 => some ((), Y1)
/-- BallotBus$Rows.copy -/
def fn_44_27_27 (i0 : Nat) (i1 : Nat) (Y : Sm) : Option (Unit × Sm) :=
  wr (sC Y 27 i0 0 27 i1 0 5) fun Y1 => some ((), Y1)
/-- BallotBus$Accounts.copyFrom -/
def fn_2 (i0 : Nat) (i1 : Nat) (Y : Sm) : Option (Unit × Sm) :=
  wr (sC Y 29 i1 0 29 i0 0 8) fun Y1 => wr (sC Y1 30 i1 0 30 i0 0 8) fun Y2 => wr (sC Y2 31 i1 0 31 i0 0 8) fun Y3 => wr (sC Y3 32 i1 0 32 i0 0 8) fun Y4 => wr (sC Y4 33 i1 0 33 i0 0 8) fun Y5 => wr (sC Y5 34 i1 0 34 i0 0 8) fun Y6 => some ((), Y6)
/-- BallotBus$AnswerLog.copyFrom -/
def fn_10 (i0 : Nat) (i1 : Nat) (Y : Sm) : Option (Unit × Sm) :=
  wr (sI Y 35 i0 1 (gI Y.1 35 i1 1)) fun Y1 => wr (sI Y1 35 i0 2 (gI Y1.1 35 i1 2)) fun Y2 => wr (sC Y2 36 i1 0 36 i0 0 360) fun Y3 => some ((), Y3)
/-- BallotBus$State.copyFrom -/
def fn_72_L121 (l0 : Nat) (l1 : Nat) (l2 : Int32) (Y : Sm) : Option ((Int32 × Sm) ⊕ ((Sm) ⊕ (Unit × Sm))) :=
  (if (nI 8) ≤ l2 then some (.inr (.inl (Y))) else ck (inb l2 8) <| bd (fn_44_27_27 (8 * l1 + ix l2) (8 * l0 + ix l2) Y) fun _ Y25 => some (.inl ((l2 + (nI 1)), Y25)))
def fn_72_J148 (l0 : Nat) (l1 : Nat) (Y : Sm) : Option (Unit × Sm) :=
  bd (fn_2 l0 l1 Y) fun _ Y27 => bd (fn_35 (l0 + 3) (l1 + 3) Y27) fun _ Y29 => bd (fn_10 l0 l1 Y29) fun _ Y31 => some ((), Y31)
def fn_72 (i0 : Nat) (i1 : Nat) (Y : Sm) : Option (Unit × Sm) :=
  wr (sG Y (i0 + 3) (Y.2 (i1 + 3))) fun Y1 => wr (sI Y1 21 i0 1 (gI Y1.1 21 i1 1)) fun Y2 => wr (sI Y2 21 i0 2 (gI Y2.1 21 i1 2)) fun Y3 => wr (sI Y3 21 i0 3 (gI Y3.1 21 i1 3)) fun Y4 => ck (bz (gI Y4.1 21 i1 4)) <| wr (sI Y4 21 i0 4 (gI Y4.1 21 i1 4)) fun Y6 => wr (sI Y6 21 i0 5 (gI Y6.1 21 i1 5)) fun Y7 => wr (sI Y7 21 i0 6 (gI Y7.1 21 i1 6)) fun Y8 => wr (sI Y8 21 i0 7 (gI Y8.1 21 i1 7)) fun Y9 => wr (sI Y9 21 i0 8 (gI Y9.1 21 i1 8)) fun Y10 => bd (fn_44_22_22 i1 i0 Y10) fun _ Y11 => bd (fn_44_23_23 i1 i0 Y11) fun _ Y13 => bd (fn_44_24_24 i1 i0 Y13) fun _ Y15 => wr (sD2 Y15 25 i1 0 25 i0 0 5) fun Y17 => exd (lp (fun s => fn_72_L121 i0 i1 s.1 s.2) FU ((nI 0), Y17)) fun s9 => fn_72_J148 i0 i1 s9
/-- BallotBus$History.push -/
def fn_14_J22 (l1 : Nat) (t0 : Int32) (Y : Sm) : Option (Unit × Sm) :=
  wr (sI Y 37 0 1 t0) fun Y1 => ck (inb (gI Y1.1 37 0 1) 8) <| bd (fn_72 ((ix (gI Y1.1 37 0 1)) + 3) l1 Y1) fun _ Y3 => wr (sI Y3 37 0 2 (if (nI 8) < ((gI Y3.1 37 0 2) + (nI 1)) then (nI 8) else ((gI Y3.1 37 0 2) + (nI 1)))) fun Y5 => some ((), Y5)
def fn_14 (i1 : Nat) (Y : Sm) : Option (Unit × Sm) :=
  (if (nI 8) ≤ ((gI Y.1 37 0 1) + (nI 1)) then fn_14_J22 i1 (nI 0) Y else fn_14_J22 i1 ((gI Y.1 37 0 1) + (nI 1)) Y)
/-- BallotBus$State.isMultipleOf -/
def fn_87 (i0 : Nat) (a1 : Int32) (Y : Sm) : Option (Int32 × Sm) :=
  (if a1 ≤ (nI 0) then some ((nI 0), Y) else ck (nz a1) <| (if ((gI Y.1 21 i0 1) - (gI Y.1 21 i0 1) / a1 * a1) = (nI 0) then some ((nI 1), Y) else some ((nI 0), Y)))
/-- BallotBus$Accounts.book -/
def fn_7 (i0 : Nat) (a1 : Int32) (a2 : Int32) (Y : Sm) : Option (Int32 × Sm) :=
  ck (inb a1 8) <| wr (sI Y 30 i0 (ix a1) ((gI Y.1 30 i0 (ix a1)) - (if (gI Y.1 30 i0 (ix a1)) < a2 then (gI Y.1 30 i0 (ix a1)) else a2))) fun Y2 => wr (sI Y2 29 i0 (ix a1) (if (((gI Y2.1 29 i0 (ix a1)) + a2) - (if (gI Y.1 30 i0 (ix a1)) < a2 then (gI Y.1 30 i0 (ix a1)) else a2)) < (nI 999) then (((gI Y2.1 29 i0 (ix a1)) + a2) - (if (gI Y.1 30 i0 (ix a1)) < a2 then (gI Y.1 30 i0 (ix a1)) else a2)) else (nI 999))) fun Y3 => wr (sI Y3 32 i0 (ix a1) ((gI Y3.1 32 i0 (ix a1)) + (nI 1))) fun Y4 => wr (sI Y4 33 i0 (ix a1) ((gI Y4.1 33 i0 (ix a1)) + a2)) fun Y5 => some ((if (gI Y.1 30 i0 (ix a1)) < a2 then (gI Y.1 30 i0 (ix a1)) else a2), Y5)
/-- BallotBus$AnswerLog.add -/
def fn_11 (i0 : Nat) (i1 : Nat) (a2 : Int32) (a3 : Int32) (a4 : Int32) (Y : Sm) : Option (Unit × Sm) :=
  ck (inb a2 40) <| ck (inb ((gI Y.1 35 i0 1) * (nI 6)) 360) <| wr (sI Y 36 i0 (ix ((gI Y.1 35 i0 1) * (nI 6))) (gI Y.1 19 i1 (ix a2))) fun Y3 => ck (inb (((gI Y.1 35 i0 1) * (nI 6)) + (nI 1)) 360) <| wr (sI Y3 36 i0 (ix (((gI Y.1 35 i0 1) * (nI 6)) + (nI 1))) (gI Y3.1 14 i1 (ix a2))) fun Y5 => ck (inb (((gI Y.1 35 i0 1) * (nI 6)) + (nI 2)) 360) <| wr (sI Y5 36 i0 (ix (((gI Y.1 35 i0 1) * (nI 6)) + (nI 2))) (gI Y5.1 15 i1 (ix a2))) fun Y7 => ck (inb (((gI Y.1 35 i0 1) * (nI 6)) + (nI 3)) 360) <| wr (sI Y7 36 i0 (ix (((gI Y.1 35 i0 1) * (nI 6)) + (nI 3))) (gI Y7.1 18 i1 (ix a2))) fun Y9 => ck (inb (((gI Y.1 35 i0 1) * (nI 6)) + (nI 4)) 360) <| wr (sI Y9 36 i0 (ix (((gI Y.1 35 i0 1) * (nI 6)) + (nI 4))) a3) fun Y11 => ck (inb (((gI Y.1 35 i0 1) * (nI 6)) + (nI 5)) 360) <| wr (sI Y11 36 i0 (ix (((gI Y.1 35 i0 1) * (nI 6)) + (nI 5))) a4) fun Y13 => wr (sI Y13 35 i0 1 (((gI Y13.1 35 i0 1) + (nI 1)) - ((gI Y13.1 35 i0 1) + (nI 1)) / (nI 60) * (nI 60))) fun Y14 => wr (sI Y14 35 i0 2 (if (nI 60) < ((gI Y14.1 35 i0 2) + (nI 1)) then (nI 60) else ((gI Y14.1 35 i0 2) + (nI 1)))) fun Y15 => some ((), Y15)
/-- BallotBus$Requests.removeAt -/
def fn_37 (i0 : Nat) (a1 : Int32) (Y : Sm) : Option (Unit × Sm) :=
  (if a1 < (nI 0) then some ((), Y) else (if a1 < (gI Y.1 12 i0 1) then ck (cpok (a1 + (nI 1)) a1 (((gI Y.1 12 i0 1) - a1) - (nI 1)) 40 40) <| wr (sC Y 14 i0 (ix (a1 + (nI 1))) 14 i0 (ix a1) (ix (((gI Y.1 12 i0 1) - a1) - (nI 1)))) fun Y2 => ck (cpok (a1 + (nI 1)) a1 (((gI Y2.1 12 i0 1) - a1) - (nI 1)) 40 40) <| wr (sC Y2 15 i0 (ix (a1 + (nI 1))) 15 i0 (ix a1) (ix (((gI Y2.1 12 i0 1) - a1) - (nI 1)))) fun Y4 => ck (cpok (a1 + (nI 1)) a1 (((gI Y4.1 12 i0 1) - a1) - (nI 1)) 40 40) <| wr (sC Y4 16 i0 (ix (a1 + (nI 1))) 16 i0 (ix a1) (ix (((gI Y4.1 12 i0 1) - a1) - (nI 1)))) fun Y6 => ck (cpok (a1 + (nI 1)) a1 (((gI Y6.1 12 i0 1) - a1) - (nI 1)) 40 40) <| wr (sC Y6 17 i0 (ix (a1 + (nI 1))) 17 i0 (ix a1) (ix (((gI Y6.1 12 i0 1) - a1) - (nI 1)))) fun Y8 => ck (cpok (a1 + (nI 1)) a1 (((gI Y8.1 12 i0 1) - a1) - (nI 1)) 40 40) <| wr (sC Y8 18 i0 (ix (a1 + (nI 1))) 18 i0 (ix a1) (ix (((gI Y8.1 12 i0 1) - a1) - (nI 1)))) fun Y10 => ck (cpok (a1 + (nI 1)) a1 (((gI Y10.1 12 i0 1) - a1) - (nI 1)) 40 40) <| wr (sC Y10 19 i0 (ix (a1 + (nI 1))) 19 i0 (ix a1) (ix (((gI Y10.1 12 i0 1) - a1) - (nI 1)))) fun Y12 => wr (sI Y12 12 i0 1 ((gI Y12.1 12 i0 1) - (nI 1))) fun Y13 => some ((), Y13) else some ((), Y)))
/-- BallotBus$State.finish -/
def fn_92 (i0 : Nat) (a1 : Int32) (Y : Sm) : Option (Unit × Sm) :=
  ck (inb a1 40) <| bd (fn_7 i0 (gI Y.1 14 (i0 + 3) (ix a1)) (gI Y.1 16 (i0 + 3) (ix a1)) Y) fun v4 Y2 => ck (inb (gI Y.1 15 (i0 + 3) (ix a1)) 5) <| wr (sI Y2 24 i0 (ix (gI Y.1 15 (i0 + 3) (ix a1))) ((gI Y2.1 24 i0 (ix (gI Y.1 15 (i0 + 3) (ix a1)))) + (nI 1))) fun Y6 => wr (sJ Y6 25 i0 (ix (gI Y.1 15 (i0 + 3) (ix a1))) ((gJ Y6.1 25 i0 (ix (gI Y.1 15 (i0 + 3) (ix a1)))) + (((gI Y6.1 21 i0 1) - (gI Y6.1 18 (i0 + 3) (ix a1))).toInt64))) fun Y7 => wr (sI Y7 21 i0 8 ((gI Y7.1 21 i0 8) + (nI 1))) fun Y8 => bd (fn_11 i0 (i0 + 3) a1 (gI Y8.1 21 i0 1) v4 Y8) fun _ Y9 => wr (sI Y9 12 (i0 + 3) 2 (-1 : Int32)) fun Y11 => bd (fn_37 (i0 + 3) a1 Y11) fun _ Y12 => some ((), Y12)
/-- BallotBus$State.work -/
def fn_91 (i0 : Nat) (Y : Sm) : Option (Unit × Sm) :=
  bd (fn_38 (i0 + 3) (gI Y.1 12 (i0 + 3) 2) Y) fun v3 Y1 => (if v3 = (-1 : Int32) then some ((), Y1) else ck (inb v3 40) <| wr (sI Y1 17 (i0 + 3) (ix v3) ((gI Y1.1 17 (i0 + 3) (ix v3)) - (nI 1))) fun Y5 => (if (nI 0) < (gI Y5.1 17 (i0 + 3) (ix v3)) then some ((), Y5) else bd (fn_92 i0 v3 Y5) fun _ Y6 => some ((), Y6)))
/-- BallotBus$State.takeUp -/
def fn_90_J40_d1 (l0 : Nat) (l1 : Int32) (t0 : Int32) (Y : Sm) : Option ((Int32 × Sm) ⊕ ((Int32 × Sm) ⊕ (Unit × Sm))) :=
  (if t0 = (-1 : Int32) then some (.inl ((l1 + (nI 1)), Y)) else some (.inr (.inl (t0, Y))))
def fn_90_L2 (l0 : Nat) (l1 : Int32) (Y : Sm) : Option ((Int32 × Sm) ⊕ ((Int32 × Sm) ⊕ (Unit × Sm))) :=
  (if (gI Y.1 5 (Y.2 (l0 + 3)) 0) ≤ l1 then some (.inr (.inr ((), Y))) else ck (inb l1 5) <| bd (fn_74 l0 (gI Y.1 22 l0 (ix l1)) Y) fun v10 Y8 => (if v10 = (nI 0) then bd (fn_76 l0 (gI Y8.1 22 l0 (ix l1)) Y8) fun v13 Y11 => fn_90_J40_d1 l0 l1 v13 Y11 else fn_90_J40_d1 l0 l1 (-1 : Int32) Y8))
def fn_90_J46 (l0 : Nat) (l2 : Int32) (Y : Sm) : Option (Unit × Sm) :=
  bd (fn_39 (l0 + 3) l2 Y) fun v16 Y14 => wr (sI Y14 12 (l0 + 3) 2 v16) fun Y17 => some ((), Y17)
def fn_90 (i0 : Nat) (Y : Sm) : Option (Unit × Sm) :=
  exd (lp (fun s => fn_90_L2 i0 s.1 s.2) FU ((nI 0), Y)) fun s9 => fn_90_J46 i0 s9.1 s9.2
/-- BallotBus$State.passTurn -/
def fn_89_J38 (l0 : Nat) (Y : Sm) : Option (Unit × Sm) :=
  wr (sI Y 21 l0 4 (nI 0)) fun Y1 => (if (gI Y1.1 5 (Y1.2 (l0 + 3)) 3) ≤ ((gI Y1.1 21 l0 3) + (nI 1)) then wr (sI Y1 21 l0 3 (nI 0)) fun Y2 => some ((), Y2) else wr (sI Y1 21 l0 3 ((gI Y1.1 21 l0 3) + (nI 1))) fun Y3 => some ((), Y3))
def fn_89 (i0 : Nat) (Y : Sm) : Option (Unit × Sm) :=
  (if (gI Y.1 21 i0 4) = (nI 0) then ck (inb (gI Y.1 21 i0 3) 8) <| wr (sI Y 31 i0 (ix (gI Y.1 21 i0 3)) (if ((gI Y.1 31 i0 (ix (gI Y.1 21 i0 3))) + (nI 1)) < (nI 99) then ((gI Y.1 31 i0 (ix (gI Y.1 21 i0 3))) + (nI 1)) else (nI 99))) fun Y5 => fn_89_J38 i0 Y5 else fn_89_J38 i0 Y)
/-- BallotBus$Poll.rank -/
def fn_30_39_22_L21_d1 (l1 : Int32) (l2 : Nat) (l3 : Int32) (l4 : Int32) (Y : Sm) : Option ((Int32 × Sm) ⊕ ((Int32 × Sm) ⊕ (Unit × Sm))) :=
  (if l4 ≤ (nI 0) then ck (inb l4 5) <| wr (sI Y 22 l2 (ix l4) l3) fun Y8 => some (.inr (.inl ((l3 + (nI 1)), Y8))) else ck (inb (l4 - (nI 1)) 5) <| bd (fn_31 l3 (gI Y.1 22 l2 (ix (l4 - (nI 1)))) l1 Y) fun v12 Y10 => (if v12 = (nI 0) then ck (inb l4 5) <| wr (sI Y10 22 l2 (ix l4) l3) fun Y14 => some (.inr (.inl ((l3 + (nI 1)), Y14))) else ck (inb l4 5) <| wr (sI Y10 22 l2 (ix l4) (gI Y10.1 22 l2 (ix (l4 - (nI 1))))) fun Y16 => some (.inl ((l4 + (-1 : Int32)), Y16))))
def fn_30_39_22_L10 (l1 : Int32) (l2 : Nat) (l3 : Int32) (Y : Sm) : Option ((Int32 × Sm) ⊕ (Unit × Sm)) :=
  (if (gI Y.1 39 0 0) ≤ l3 then some (.inr ((), Y)) else lp (fun s => fn_30_39_22_L21_d1 l1 l2 l3 s.1 s.2) FU (l3, Y))
def fn_30_39_22 (a1 : Int32) (i2 : Nat) (Y : Sm) : Option (Unit × Sm) :=
  (if (gI Y.1 39 0 1) = (nI 0) then some ((), Y) else lp (fun s => fn_30_39_22_L10 a1 i2 s.1 s.2) FU ((nI 0), Y))
/-- BallotBus$State.holdVote -/
def fn_88 (i0 : Nat) (Y : Sm) : Option (Unit × Sm) :=
  bd (fn_25 i0 (-1 : Int32) Y) fun _ Y1 => bd (fn_30_39_22 (gI Y1.1 21 i0 2) i0 Y1) fun _ Y3 => wr (sI Y3 21 i0 5 (nI 0)) fun Y5 => wr (sI Y5 21 i0 6 ((gI Y5.1 21 i0 6) + (nI 1))) fun Y6 => some ((), Y6)
/-- BallotBus$State.tick -/
def fn_86_J48 (l0 : Nat) (Y : Sm) : Option (Unit × Sm) :=
  (if (gI Y.1 12 (l0 + 3) 2) = (-1 : Int32) then bd (fn_90 l0 Y) fun _ Y7 => bd (fn_91 l0 Y7) fun _ Y9 => wr (sI Y9 21 l0 1 ((gI Y9.1 21 l0 1) + (nI 1))) fun Y11 => some ((), Y11) else bd (fn_91 l0 Y) fun _ Y4 => wr (sI Y4 21 l0 1 ((gI Y4.1 21 l0 1) + (nI 1))) fun Y6 => some ((), Y6))
def fn_86_J21 (l0 : Nat) (Y : Sm) : Option (Unit × Sm) :=
  (if (gI Y.1 21 l0 1) = (nI 0) then fn_86_J48 l0 Y else bd (fn_87 l0 (gI Y.1 11 (Y.2 (l0 + 3)) 0) Y) fun v14 Y12 => (if v14 = (nI 0) then fn_86_J48 l0 Y12 else bd (fn_89 l0 Y12) fun _ Y15 => fn_86_J48 l0 Y15))
def fn_86 (i0 : Nat) (Y : Sm) : Option (Unit × Sm) :=
  bd (fn_87 i0 (gI Y.1 11 (Y.2 (i0 + 3)) 1) Y) fun v3 Y1 => (if v3 = (nI 0) then fn_86_J21 i0 Y1 else bd (fn_88 i0 Y1) fun _ Y17 => fn_86_J21 i0 Y17)
/-- BallotBus$State.pass -/
def fn_85_L2 (l0 : Nat) (l1 : Int32) (l3 : Int32) (Y : Sm) : Option ((Int32 × Sm) ⊕ (Unit × Sm)) :=
  (if l1 ≤ l3 then some (.inr ((), Y)) else bd (fn_86 l0 Y) fun _ Y4 => some (.inl ((l3 + (nI 1)), Y4)))
def fn_85 (i0 : Nat) (a1 : Int32) (Y : Sm) : Option (Unit × Sm) :=
  lp (fun s => fn_85_L2 i0 a1 s.1 s.2) FU ((nI 0), Y)
/-- BallotBus.run -/
def fn_134 (a1 : Int32) (Y : Sm) : Option ((Int32 ⊕ Nat) × Sm) :=
  bx (fn_157 a1 (nI 500) Y) (fun x7 Y1 => some (.inr x7, Y1)) fun _ Y1 => bd (fn_14 0 Y1) fun _ Y3 => bd (fn_85 0 a1 Y3) fun _ Y5 => some (.inl ((gI Y5.1 21 0 8) - (gI Y3.1 21 0 8)), Y5)
/-- BallotBus$State.take -/
def fn_81 (i0 : Nat) (a1 : Int32) (a2 : Int32) (a3 : Int32) (Y : Sm) : Option (Int32 × Sm) :=
  bd (fn_36 (i0 + 3) (gI Y.1 21 i0 7) a1 a2 a3 (gI Y.1 21 i0 1) Y) fun _ Y1 => wr (sI Y1 21 i0 7 ((gI Y1.1 21 i0 7) + (nI 1))) fun Y3 => some ((gI Y.1 21 i0 7), Y3)
/-- BallotBus.ask -/
def fn_135 (a1 : Int32) (a2 : Int32) (a3 : Int32) (Y : Sm) : Option ((Int32 ⊕ Nat) × Sm) :=
  bx (fn_154 a1 Y) (fun x13 Y1 => some (.inr x13, Y1)) fun _ Y1 => bx (fn_155 a2 Y1) (fun x10 Y3 => some (.inr x10, Y3)) fun _ Y3 => (if a3 < (nI 1) then some (.inr 1, Y3) else (if a3 ≤ (nI 20) then (if (nI 40) ≤ (gI Y3.1 12 3 1) then some (.inr 2, Y3) else (if (gI Y3.1 21 0 7) < (nI 9999) then bd (fn_14 0 Y3) fun _ Y5 => bd (fn_81 0 a1 a2 a3 Y5) fun v9 Y7 => some (.inl v9, Y7) else some (.inr 2, Y3))) else some (.inr 1, Y3)))
/-- BallotBus$Rows.decode -/
def fn_50_L15 (l2 : Int32) (l3 : Int32) (l4 : Int32) (l5 : Int32) (Y : Sm) : Option ((Int32 × Int32 × Int32 × Sm) ⊕ ((Int32 × Sm) ⊕ (Int32 × Sm))) :=
  (if l5 < (nI 0) then some (.inr (.inl (l3, Y))) else (if (l3 - l3 / (nI 10) * (nI 10)) < (nI 0) then some (.inr (.inr ((nI 0), Y))) else (if l2 ≤ (l3 - l3 / (nI 10) * (nI 10)) then some (.inr (.inr ((nI 0), Y))) else (if (l4 &&& ((nI 1) <<< ((l3 - l3 / (nI 10) * (nI 10)) &&& 31))) = (nI 0) then ck (inb l5 5) <| wr (sI Y 46 0 (ix l5) (l3 - l3 / (nI 10) * (nI 10))) fun Y8 => some (.inl ((l3 / (nI 10)), (l4 ||| ((nI 1) <<< ((l3 - l3 / (nI 10) * (nI 10)) &&& 31))), (l5 + (-1 : Int32)), Y8)) else some (.inr (.inr ((nI 0), Y)))))))
def fn_50_J75 (l3 : Int32) (Y : Sm) : Option (Int32 × Sm) :=
  (if l3 = (nI 0) then some ((nI 1), Y) else some ((nI 0), Y))
def fn_50 (a0 : Int32) (a2 : Int32) (Y : Sm) : Option (Int32 × Sm) :=
  exd (lp (fun s => fn_50_L15 a2 s.1 s.2.1 s.2.2.1 s.2.2.2) FU (a0, (nI 0), ((if (nI 5) < a2 then (nI 5) else a2) - (nI 1)), Y)) fun s9 => fn_50_J75 s9.1 s9.2
/-- BallotBus$Rows.copy -/
def fn_44_46_27 (i1 : Nat) (Y : Sm) : Option (Unit × Sm) :=
  wr (sC Y 46 0 0 27 i1 0 5) fun Y1 => some ((), Y1)
/-- BallotBus$State.takeBallot -/
def fn_82 (i0 : Nat) (Y : Sm) : Option (Unit × Sm) :=
  ck (inb (gI Y.1 21 i0 3) 8) <| bd (fn_44_46_27 (8 * i0 + ix (gI Y.1 21 i0 3)) Y) fun _ Y2 => wr (sI Y2 21 i0 4 (nI 1)) fun Y4 => ck (inb (gI Y4.1 21 i0 3) 8) <| wr (sI Y4 31 i0 (ix (gI Y4.1 21 i0 3)) (nI 0)) fun Y6 => some ((), Y6)
/-- BallotBus.cast -/
def fn_137 (a1 : Int32) (Y : Sm) : Option ((Int32 ⊕ Nat) × Sm) :=
  bd (fn_50 a1 (gI Y.1 5 (Y.2 0) 0) Y) fun v3 Y1 => (if v3 = (nI 0) then some (.inr 1, Y1) else bd (fn_14 0 Y1) fun _ Y4 => bd (fn_82 0 Y4) fun _ Y6 => some (.inl (gI Y6.1 21 0 3), Y6))
/-- BallotBus$Accounts.settleFromCredits -/
def fn_6 (i0 : Nat) (a1 : Int32) (Y : Sm) : Option (Int32 × Sm) :=
  ck (inb a1 8) <| wr (sI Y 29 i0 (ix a1) ((gI Y.1 29 i0 (ix a1)) - (if (gI Y.1 30 i0 (ix a1)) < (gI Y.1 29 i0 (ix a1)) then (gI Y.1 30 i0 (ix a1)) else (gI Y.1 29 i0 (ix a1))))) fun Y2 => wr (sI Y2 30 i0 (ix a1) ((gI Y2.1 30 i0 (ix a1)) - (if (gI Y.1 30 i0 (ix a1)) < (gI Y.1 29 i0 (ix a1)) then (gI Y.1 30 i0 (ix a1)) else (gI Y.1 29 i0 (ix a1))))) fun Y3 => some ((if (gI Y.1 30 i0 (ix a1)) < (gI Y.1 29 i0 (ix a1)) then (gI Y.1 30 i0 (ix a1)) else (gI Y.1 29 i0 (ix a1))), Y3)
/-- BallotBus.payBack -/
def fn_139 (a1 : Int32) (Y : Sm) : Option ((Int32 ⊕ Nat) × Sm) :=
  bx (fn_154 a1 Y) (fun x8 Y1 => some (.inr x8, Y1)) fun _ Y1 => bd (fn_14 0 Y1) fun _ Y3 => bd (fn_6 0 a1 Y3) fun v7 Y5 => some (.inl v7, Y5)
/-- BallotBus.setTally -/
def fn_140 (a1 : Int32) (Y : Sm) : Option ((Int32 ⊕ Nat) × Sm) :=
  bx (fn_156 a1 Y) (fun x6 Y1 => some (.inr x6, Y1)) fun _ Y1 => bd (fn_14 0 Y1) fun _ Y3 => wr (sI Y3 21 0 2 a1) fun Y5 => some (.inl (gI Y3.1 21 0 2), Y5)
/-- BallotBus.setManner -/
def fn_141 (a1 : Int32) (a2 : Int32) (Y : Sm) : Option ((Int32 ⊕ Nat) × Sm) :=
  bx (fn_155 a1 Y) (fun x7 Y1 => some (.inr x7, Y1)) fun _ Y1 => (if a2 < (nI 0) then some (.inr 1, Y1) else (if a2 ≤ (nI 3) then bd (fn_14 0 Y1) fun _ Y3 => ck (inb a1 5) <| wr (sI Y3 23 0 (ix a1) a2) fun Y6 => some (.inl (gI Y3.1 23 0 (ix a1)), Y6) else some (.inr 1, Y1)))
/-- BallotBus$History.pop -/
def fn_15 (i1 : Nat) (Y : Sm) : Option (Unit × Sm) :=
  (if (gI Y.1 37 0 2) ≤ (nI 0) then some ((), Y) else ck (inb (gI Y.1 37 0 1) 8) <| bd (fn_72 i1 ((ix (gI Y.1 37 0 1)) + 3) Y) fun _ Y2 => (if (gI Y2.1 37 0 1) ≤ (nI 0) then wr (sI Y2 37 0 1 (nI 7)) fun Y4 => wr (sI Y4 37 0 2 ((gI Y4.1 37 0 2) - (nI 1))) fun Y5 => some ((), Y5) else wr (sI Y2 37 0 1 ((gI Y2.1 37 0 1) - (nI 1))) fun Y6 => wr (sI Y6 37 0 2 ((gI Y6.1 37 0 2) - (nI 1))) fun Y7 => some ((), Y7)))
/-- BallotBus.undo -/
def fn_142 (Y : Sm) : Option ((Int32 ⊕ Nat) × Sm) :=
  (if (gI Y.1 37 0 2) = (nI 0) then some (.inr 2, Y) else bd (fn_15 0 Y) fun _ Y1 => some (.inl (gI Y1.1 37 0 2), Y1))
/-- BallotBus$State.answersOf -/
def fn_75 (i0 : Nat) (a1 : Int32) (Y : Sm) : Option (Int32 × Sm) :=
  (if a1 = (-1 : Int32) then some ((gI Y.1 21 i0 8), Y) else ck (inb a1 8) <| some ((gI Y.1 32 i0 (ix a1)), Y))
/-- BallotBus.answersIn -/
def fn_144_J10 (l1 : Int32) (l2 : Int32) (Y : Sm) : Option ((Int32 ⊕ Nat) × Sm) :=
  bx (fn_157 l1 (nI 500) Y) (fun x13 Y1 => some (.inr x13, Y1)) fun _ Y1 => bd (fn_72 1 0 Y1) fun _ Y3 => bd (fn_85 1 l1 Y3) fun _ Y5 => bd (fn_75 1 l2 Y5) fun v9 Y7 => bd (fn_75 0 l2 Y7) fun v12 Y10 => some (.inl (v9 - v12), Y10)
def fn_144_J10_1 (l1 : Int32) (l2 : Int32) (Y : Sm) : Option ((Int32 ⊕ Nat) × Sm) :=
  bx (fn_157 l1 (nI 500) Y) (fun x30 Y18 => some (.inr x30, Y18)) fun _ Y18 => bd (fn_72 1 0 Y18) fun _ Y20 => bd (fn_85 1 l1 Y20) fun _ Y22 => bd (fn_75 1 l2 Y22) fun v26 Y24 => bd (fn_75 0 l2 Y24) fun v29 Y27 => some (.inl (v26 - v29), Y27)
def fn_144 (a1 : Int32) (a2 : Int32) (Y : Sm) : Option ((Int32 ⊕ Nat) × Sm) :=
  (if a2 = (-1 : Int32) then fn_144_J10 a1 a2 Y else bx (fn_154 a2 Y) (fun x33 Y16 => some (.inr x33, Y16)) fun _ Y16 => fn_144_J10_1 a1 a2 Y16)
/-- BallotBus.bestTally -/
def fn_146_L15_1 (l1 : Int32) (l2 : Int32) (l3 : Int32) (l4 : Int32) (Y : Sm) : Option ((Int32 × Int32 × Int32 × Sm) ⊕ ((Int32 ⊕ Nat) × Sm)) :=
  (if (nI 2) < l4 then some (.inr (.inl l3, Y)) else bd (fn_72 1 0 Y) fun _ Y6 => wr (sI Y6 21 1 2 l4) fun Y8 => bd (fn_85 1 l1 Y8) fun _ Y9 => (if (gI Y9.1 21 1 8) ≤ l2 then some (.inl (l2, l3, (l4 + (nI 1)), Y9)) else some (.inl ((gI Y9.1 21 1 8), l4, (l4 + (nI 1)), Y9))))
def fn_146 (a1 : Int32) (Y : Sm) : Option ((Int32 ⊕ Nat) × Sm) :=
  bx (fn_157 a1 (nI 500) Y) (fun x11 Y1 => some (.inr x11, Y1)) fun _ Y1 => lp (fun s => fn_146_L15_1 a1 s.1 s.2.1 s.2.2.1 s.2.2.2) FU ((-1 : Int32), (nI 0), (nI 0), Y1)
/-- BallotBus.emptyIn -/
def fn_149_L13 (l1 : Int32) (Y : Sm) : Option ((Int32 × Sm) ⊕ (Int32 × Sm)) :=
  (if (nI 1000) < l1 then some (.inr ((-1 : Int32), Y)) else (if (gI Y.1 12 4 1) = (nI 0) then some (.inr (l1, Y)) else bd (fn_86 1 Y) fun _ Y6 => some (.inl ((l1 + (nI 1)), Y6))))
def fn_149 (Y : Sm) : Option (Int32 × Sm) :=
  bd (fn_72 1 0 Y) fun _ Y1 => lp (fun s => fn_149_L13 s.1 s.2) FU ((nI 0), Y1)
/-- BallotBus.saveState -/
def fn_152 (Y : Sm) : Option (Int32 × Sm) :=
  bd (fn_72 2 0 Y) fun _ Y1 => wr (sI Y1 0 0 11 (nI 1)) fun Y3 => some ((gI Y3.1 21 0 1), Y3)
/-- BallotBus.restoreState -/
def fn_153 (Y : Sm) : Option ((Int32 ⊕ Nat) × Sm) :=
  (if (gI Y.1 0 0 11) = (nI 0) then some (.inr 2, Y) else bd (fn_72 0 2 Y) fun _ Y1 => wr (sI Y1 37 0 2 (nI 0)) fun Y3 => some (.inl (gI Y3.1 21 0 1), Y3))
