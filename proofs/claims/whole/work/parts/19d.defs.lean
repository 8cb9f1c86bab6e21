/-! the functions of the methods (printed by wip/whole/gen20.py) -/
/-- BallotBus$Input.append -/
def fn_17_L3 (l1 : Int32) (l2 : Int32) (Y : Sm) : Option ((Int32 × Sm) ⊕ (Unit × Sm)) :=
  (if l2 < (nI 0) then some (.inr ((), Y)) else (if (nI 500) ≤ (gI Y.1 1 0 1) then some (.inl ((l2 + (-8 : Int32)), Y)) else ck (inb (gI Y.1 1 0 1) 500) <| wr (sI Y 2 0 (ix (gI Y.1 1 0 1)) (((((l1 >>> (l2 &&& 31))).toInt8.toInt32)).toInt8.toInt32)) fun Y5 => wr (sI Y5 1 0 1 ((gI Y5.1 1 0 1) + (nI 1))) fun Y6 => some (.inl ((l2 + (-8 : Int32)), Y6))))
def fn_17 (a1 : Int32) (Y : Sm) : Option (Unit × Sm) :=
  lp (fun s => fn_17_L3 a1 s.1 s.2) FU ((nI 24), Y)
/-- BallotBus.feed -/
def fn_104 (a1 : Int32) (a2 : Int32) (a3 : Int32) (a4 : Int32) (a5 : Int32) (Y : Sm) : Option (Int32 × Sm) :=
  (if (gI Y.1 1 0 1) ≤ (nI 480) then bd (fn_17 a1 Y) fun _ Y1 => bd (fn_17 a2 Y1) fun _ Y3 => bd (fn_17 a3 Y3) fun _ Y5 => bd (fn_17 a4 Y5) fun _ Y7 => bd (fn_17 a5 Y7) fun _ Y9 => some ((gI Y9.1 1 0 1), Y9) else some ((-1 : Int32), Y))
/-- BallotBus.truncate -/
def fn_105 (a1 : Int32) (Y : Sm) : Option (Int32 × Sm) :=
  (if a1 < (nI 0) then some ((nI 0), Y) else (if a1 ≤ (gI Y.1 1 0 1) then wr (sI Y 1 0 1 a1) fun Y1 => some ((nI 1), Y1) else some ((nI 0), Y)))
/-- BallotBus$Requests.clear -/
def fn_34 (i0 : Nat) (Y : Sm) : Option (Unit × Sm) :=
  wr (sI Y 12 i0 1 (nI 0)) fun Y1 => wr (sI Y1 12 i0 2 (-1 : Int32)) fun Y2 => some ((), Y2)
/-- BallotBus$Setup.setDefaults -/
def fn_53 (i0 : Nat) (Y : Sm) : Option (Unit × Sm) :=
  wr (sI Y 11 i0 0 (nI 3)) fun Y1 => wr (sI Y1 11 i0 1 (nI 6)) fun Y2 => wr (sI Y2 11 i0 2 (nI 10)) fun Y3 => wr (sI Y3 11 i0 3 (nI 0)) fun Y4 => wr (sI Y4 11 i0 4 (nI 3)) fun Y5 => some ((), Y5)
/-- BallotBus$Setup.clear -/
def fn_52 (i0 : Nat) (Y : Sm) : Option (Unit × Sm) :=
  wr (sI Y 5 i0 0 (nI 0)) fun Y1 => wr (sI Y1 5 i0 3 (nI 0)) fun Y2 => wr (sI Y2 5 i0 7 (nI 0)) fun Y3 => bd (fn_34 i0 Y3) fun _ Y4 => bd (fn_53 i0 Y4) fun _ Y6 => some ((), Y6)
/-- BallotBus$Input.byteAt -/
def fn_18 (a1 : Int32) (Y : Sm) : Option (Int32 × Sm) :=
  (if a1 < (nI 0) then some ((-1 : Int32), Y) else (if a1 < (gI Y.1 1 0 1) then ck (inb a1 500) <| some (((gI Y.1 2 0 (ix a1)) &&& (nI 255)), Y) else some ((-1 : Int32), Y)))
/-- BallotBus$Input.isBlank -/
def fn_21 (a1 : Int32) (Y : Sm) : Option (Int32 × Sm) :=
  bd (fn_18 a1 Y) fun v3 Y1 => (if v3 = (nI 32) then some ((nI 1), Y1) else (if v3 = (nI 10) then some ((nI 1), Y1) else some ((nI 0), Y1)))
/-- BallotBus$Input.isLetter -/
def fn_19 (a1 : Int32) (Y : Sm) : Option (Int32 × Sm) :=
  bd (fn_18 a1 Y) fun v3 Y1 => (if v3 < (nI 97) then some ((nI 0), Y1) else (if (nI 122) < v3 then some ((nI 0), Y1) else some ((nI 1), Y1)))
/-- BallotBus$Input.isDigit -/
def fn_20 (a1 : Int32) (Y : Sm) : Option (Int32 × Sm) :=
  bd (fn_18 a1 Y) fun v3 Y1 => (if v3 < (nI 48) then some ((nI 0), Y1) else (if (nI 57) < v3 then some ((nI 0), Y1) else some ((nI 1), Y1)))
/-- BallotBus$Tokens.advance -/
def fn_95_L8 (Y : Sm) : Option ((Sm) ⊕ ((Sm) ⊕ (Unit × Sm))) :=
  (if (gI Y.1 1 0 1) ≤ (gI Y.1 4 0 2) then some (.inr (.inl (Y))) else bd (fn_21 (gI Y.1 4 0 2) Y) fun v10 Y8 => (if v10 = (nI 0) then some (.inr (.inl (Y8))) else wr (sI Y8 4 0 2 ((gI Y8.1 4 0 2) + (nI 1))) fun Y11 => some (.inl (Y11))))
def fn_95_L158 (Y : Sm) : Option ((Sm) ⊕ (Unit × Sm)) :=
  (if (gI Y.1 1 0 1) ≤ (gI Y.1 4 0 3) then some (.inr ((), Y)) else bd (fn_20 (gI Y.1 4 0 3) Y) fun v32 Y30 => (if v32 = (nI 0) then some (.inr ((), Y30)) else wr (sI Y30 4 0 3 ((gI Y30.1 4 0 3) + (nI 1))) fun Y33 => some (.inl (Y33))))
def fn_95_L98 (Y : Sm) : Option ((Sm) ⊕ (Unit × Sm)) :=
  (if (gI Y.1 1 0 1) ≤ (gI Y.1 4 0 3) then some (.inr ((), Y)) else bd (fn_19 (gI Y.1 4 0 3) Y) fun v40 Y38 => (if v40 = (nI 0) then some (.inr ((), Y38)) else wr (sI Y38 4 0 3 ((gI Y38.1 4 0 3) + (nI 1))) fun Y41 => some (.inl (Y41))))
def fn_95_J49 (Y : Sm) : Option (Unit × Sm) :=
  wr (sI Y 4 0 3 (gI Y.1 4 0 2)) fun Y12 => (if (gI Y12.1 4 0 2) < (gI Y12.1 1 0 1) then bd (fn_19 (gI Y12.1 4 0 2) Y12) fun v15 Y13 => (if v15 = (nI 0) then bd (fn_20 (gI Y13.1 4 0 2) Y13) fun v18 Y16 => (if v18 = (nI 0) then bd (fn_18 (gI Y16.1 4 0 2) Y16) fun v21 Y19 => (if v21 = (nI 59) then wr (sI Y19 4 0 1 (nI 3)) fun Y24 => wr (sI Y24 4 0 3 ((gI Y24.1 4 0 3) + (nI 1))) fun Y25 => some ((), Y25) else wr (sI Y19 4 0 1 (nI 4)) fun Y22 => wr (sI Y22 4 0 3 ((gI Y22.1 4 0 3) + (nI 1))) fun Y23 => some ((), Y23)) else wr (sI Y16 4 0 1 (nI 2)) fun Y26 => lp (fun s => fn_95_L158 s) FU (Y26)) else wr (sI Y13 4 0 1 (nI 1)) fun Y34 => lp (fun s => fn_95_L98 s) FU (Y34)) else wr (sI Y12 4 0 1 (nI 0)) fun Y42 => some ((), Y42))
def fn_95 (Y : Sm) : Option (Unit × Sm) :=
  wr (sI Y 4 0 2 (gI Y.1 4 0 3)) fun Y1 => exd (lp (fun s => fn_95_L8 s) FU (Y1)) fun s9 => fn_95_J49 s9
/-- BallotBus$Tokens.open -/
def fn_94 (Y : Sm) : Option (Unit × Sm) :=
  wr (sI Y 4 0 3 (nI 0)) fun Y1 => bd (fn_95 Y1) fun _ Y2 => some ((), Y2)
/-- BallotBus$Tokens.size -/
def fn_96 (Y : Sm) : Option (Int32 × Sm) :=
  some (((gI Y.1 4 0 3) - (gI Y.1 4 0 2)), Y)
/-- BallotBus$Tokens.is -/
def fn_97_L23 (l1 : Nat) (l2 : Int32) (Y : Sm) : Option ((Int32 × Sm) ⊕ (Int32 × Sm)) :=
  (if (nI (slen l1)) ≤ l2 then some (.inr ((nI 1), Y)) else bd (fn_18 ((gI Y.1 4 0 2) + l2) Y) fun v9 Y7 => ck (inb l2 (slen l1)) <| (if v9 = (schr l1 (ix l2)) then some (.inl ((l2 + (nI 1)), Y7)) else some (.inr ((nI 0), Y7))))
def fn_97 (a1 : Nat) (Y : Sm) : Option (Int32 × Sm) :=
  (if (gI Y.1 4 0 1) = (nI 1) then bd (fn_96 Y) fun v3 Y1 => (if v3 = (nI (slen a1)) then lp (fun s => fn_97_L23 a1 s.1 s.2) FU ((nI 0), Y1) else some ((nI 0), Y1)) else some ((nI 0), Y))
/-- BallotBus$SetupReader.fail -/
def fn_60 (a1 : Int32) (Y : Sm) : Option (Int32 × Sm) :=
  wr (sI Y 3 0 3 a1) fun Y1 => wr (sI Y1 3 0 4 (gI Y1.1 4 0 2)) fun Y2 => some ((nI 0), Y2)
/-- BallotBus$Tokens.isNumber -/
def fn_101 (Y : Sm) : Option (Int32 × Sm) :=
  (if (gI Y.1 4 0 1) = (nI 2) then bd (fn_96 Y) fun v3 Y1 => (if (nI 3) < v3 then some ((nI 0), Y1) else some ((nI 1), Y1)) else some ((nI 0), Y))
/-- BallotBus$Tokens.number -/
def fn_102_L7 (l1 : Int32) (l2 : Int32) (Y : Sm) : Option ((Int32 × Int32 × Sm) ⊕ (Int32 × Sm)) :=
  (if (gI Y.1 4 0 3) ≤ l2 then some (.inr (l1, Y)) else bd (fn_18 l2 Y) fun v6 Y4 => some (.inl ((((l1 * (nI 10)) + v6) - (nI 48)), (l2 + (nI 1)), Y4)))
def fn_102 (Y : Sm) : Option (Int32 × Sm) :=
  lp (fun s => fn_102_L7 s.1 s.2.1 s.2.2) FU ((nI 0), (gI Y.1 4 0 2), Y)
/-- BallotBus$SetupReader.readNumber -/
def fn_69 (a1 : Int32) (a2 : Int32) (Y : Sm) : Option (Int32 × Sm) :=
  bd (fn_101 Y) fun v3 Y1 => (if v3 = (nI 0) then bd (fn_60 (nI 1) Y1) fun v17 Y15 => some ((-1 : Int32), Y15) else bd (fn_102 Y1) fun v6 Y4 => (if v6 < a1 then bd (fn_60 (nI 2) Y4) fun v9 Y7 => some ((-1 : Int32), Y7) else (if v6 ≤ a2 then bd (fn_95 Y4) fun _ Y10 => some (v6, Y10) else bd (fn_60 (nI 2) Y4) fun v14 Y12 => some ((-1 : Int32), Y12))))
/-- BallotBus$SetupReader.readSetting -/
def fn_68 (a1 : Int32) (a2 : Int32) (a3 : Int32) (Y : Sm) : Option (Int32 × Sm) :=
  (if ((gI Y.1 3 0 2) &&& ((nI 1) <<< (a1 &&& 31))) = (nI 0) then wr (sI Y 3 0 2 ((gI Y.1 3 0 2) ||| ((nI 1) <<< (a1 &&& 31)))) fun Y1 => bd (fn_95 Y1) fun _ Y2 => bd (fn_69 a2 a3 Y2) fun v6 Y4 => (if (gI Y4.1 3 0 3) = (nI 0) then (if a1 < (nI 0) then (if (gI Y4.1 3 0 3) = (nI 0) then some ((nI 1), Y4) else some ((nI 0), Y4)) else (if (nI 5) ≤ a1 then (if (gI Y4.1 3 0 3) = (nI 0) then some ((nI 1), Y4) else some ((nI 0), Y4)) else ck (inb a1 5) <| wr (sI Y4 11 (Y4.2 2) (ix a1) v6) fun Y8 => (if (gI Y8.1 3 0 3) = (nI 0) then some ((nI 1), Y8) else some ((nI 0), Y8)))) else (if (gI Y4.1 3 0 3) = (nI 0) then some ((nI 1), Y4) else some ((nI 0), Y4))) else bd (fn_60 (nI 3) Y) fun v11 Y9 => ck (bz v11) <| some (v11, Y9))
/-- BallotBus$SetupReader.readTally -/
def fn_67 (Y : Sm) : Option (Int32 × Sm) :=
  (if ((gI Y.1 3 0 2) &&& (nI 32)) = (nI 0) then wr (sI Y 3 0 2 ((gI Y.1 3 0 2) ||| (nI 32))) fun Y1 => bd (fn_95 Y1) fun _ Y2 => bd (fn_97 8 Y2) fun v6 Y4 => (if v6 = (nI 0) then bd (fn_97 9 Y4) fun v9 Y7 => (if v9 = (nI 0) then bd (fn_97 10 Y7) fun v12 Y10 => (if v12 = (nI 0) then bd (fn_60 (nI 1) Y10) fun v15 Y13 => ck (bz v15) <| some (v15, Y13) else wr (sI Y10 5 (Y10.2 2) 7 (nI 2)) fun Y17 => bd (fn_95 Y17) fun _ Y18 => some ((nI 1), Y18)) else wr (sI Y7 5 (Y7.2 2) 7 (nI 1)) fun Y20 => bd (fn_95 Y20) fun _ Y21 => some ((nI 1), Y21)) else wr (sI Y4 5 (Y4.2 2) 7 (nI 0)) fun Y23 => bd (fn_95 Y23) fun _ Y24 => some ((nI 1), Y24)) else bd (fn_60 (nI 3) Y) fun v28 Y26 => ck (bz v28) <| some (v28, Y26))
/-- BallotBus$Tokens.isQuoted -/
def fn_99 (Y : Sm) : Option (Int32 × Sm) :=
  bd (fn_97 0 Y) fun v3 Y1 => (if v3 = (nI 0) then bd (fn_97 1 Y1) fun v6 Y4 => (if v6 = (nI 0) then bd (fn_97 2 Y4) fun v9 Y7 => (if v9 = (nI 0) then bd (fn_97 3 Y7) fun v12 Y10 => (if v12 = (nI 0) then bd (fn_97 4 Y10) fun v15 Y13 => (if v15 = (nI 0) then bd (fn_97 5 Y13) fun v18 Y16 => (if v18 = (nI 0) then bd (fn_97 6 Y16) fun v21 Y19 => (if v21 = (nI 0) then bd (fn_97 7 Y19) fun v24 Y22 => (if v24 = (nI 0) then bd (fn_97 8 Y22) fun v27 Y25 => (if v27 = (nI 0) then bd (fn_97 9 Y25) fun v30 Y28 => (if v30 = (nI 0) then bd (fn_97 10 Y28) fun v33 Y31 => (if v33 = (nI 0) then bd (fn_97 11 Y31) fun v36 Y34 => (if v36 = (nI 0) then bd (fn_97 12 Y34) fun v39 Y37 => (if v39 = (nI 0) then bd (fn_97 13 Y37) fun v42 Y40 => (if v42 = (nI 0) then bd (fn_97 14 Y40) fun v45 Y43 => (if v45 = (nI 0) then bd (fn_97 15 Y43) fun v48 Y46 => (if v48 = (nI 0) then bd (fn_97 16 Y46) fun v51 Y49 => (if v51 = (nI 0) then some ((nI 0), Y49) else some ((nI 1), Y49)) else some ((nI 1), Y46)) else some ((nI 1), Y43)) else some ((nI 1), Y40)) else some ((nI 1), Y37)) else some ((nI 1), Y34)) else some ((nI 1), Y31)) else some ((nI 1), Y28)) else some ((nI 1), Y25)) else some ((nI 1), Y22)) else some ((nI 1), Y19)) else some ((nI 1), Y16)) else some ((nI 1), Y13)) else some ((nI 1), Y10)) else some ((nI 1), Y7)) else some ((nI 1), Y4)) else some ((nI 1), Y1))
/-- BallotBus$Tokens.isName -/
def fn_98 (Y : Sm) : Option (Int32 × Sm) :=
  (if (gI Y.1 4 0 1) = (nI 1) then bd (fn_96 Y) fun v3 Y1 => (if (nI 6) < v3 then some ((nI 0), Y1) else bd (fn_99 Y1) fun v6 Y4 => (if v6 = (nI 0) then some ((nI 1), Y4) else some ((nI 0), Y4))) else some ((nI 0), Y))
/-- BallotBus$Input.nameAt -/
def fn_23_L5 (l2 : Int32) (l3 : Int64) (l5 : Int32) (Y : Sm) : Option ((Int64 × Int32 × Sm) ⊕ (Int64 × Sm)) :=
  (if l2 ≤ l5 then some (.inr (l3, Y)) else bd (fn_18 l5 Y) fun v6 Y4 => some (.inl (((l3 <<< ((nI 8).toInt64 &&& 63)) ||| ((v6).toInt64)), (l5 + (nI 1)), Y4)))
def fn_23 (a1 : Int32) (a2 : Int32) (Y : Sm) : Option (Int64 × Sm) :=
  lp (fun s => fn_23_L5 a2 s.1 s.2.1 s.2.2) FU ((Int64.ofNat 0), a1, Y)
/-- BallotBus$Tokens.name -/
def fn_100 (Y : Sm) : Option (Int64 × Sm) :=
  bd (fn_23 (gI Y.1 4 0 2) (gI Y.1 4 0 3) Y) fun v3 Y1 => some (v3, Y1)
/-- BallotBus$Setup.askerNamed -/
def fn_57_L2 (l0 : Nat) (l1 : Int64) (l3 : Int32) (Y : Sm) : Option ((Int32 × Sm) ⊕ (Int32 × Sm)) :=
  (if (gI Y.1 5 l0 3) ≤ l3 then some (.inr ((-1 : Int32), Y)) else ck (inb l3 8) <| (if (lg_cmp (gJ Y.1 8 l0 (ix l3)) l1) = (nI 0) then some (.inr (l3, Y)) else some (.inl ((l3 + (nI 1)), Y))))
def fn_57 (i0 : Nat) (a1 : Int64) (Y : Sm) : Option (Int32 × Sm) :=
  lp (fun s => fn_57_L2 i0 a1 s.1 s.2) FU ((nI 0), Y)
/-- BallotBus$Setup.kindNamed -/
def fn_56_L2 (l0 : Nat) (l1 : Int64) (l3 : Int32) (Y : Sm) : Option ((Int32 × Sm) ⊕ (Int32 × Sm)) :=
  (if (gI Y.1 5 l0 0) ≤ l3 then some (.inr ((-1 : Int32), Y)) else ck (inb l3 5) <| (if (lg_cmp (gJ Y.1 6 l0 (ix l3)) l1) = (nI 0) then some (.inr (l3, Y)) else some (.inl ((l3 + (nI 1)), Y))))
def fn_56 (i0 : Nat) (a1 : Int64) (Y : Sm) : Option (Int32 × Sm) :=
  lp (fun s => fn_56_L2 i0 a1 s.1 s.2) FU ((nI 0), Y)
/-- BallotBus$Requests.add -/
def fn_36 (i0 : Nat) (a1 : Int32) (a2 : Int32) (a3 : Int32) (a4 : Int32) (a5 : Int32) (Y : Sm) : Option (Unit × Sm) :=
  (if (nI 40) ≤ (gI Y.1 12 i0 1) then some ((), Y) else ck (inb (gI Y.1 12 i0 1) 40) <| wr (sI Y 14 i0 (ix (gI Y.1 12 i0 1)) a2) fun Y2 => ck (inb (gI Y2.1 12 i0 1) 40) <| wr (sI Y2 15 i0 (ix (gI Y2.1 12 i0 1)) a3) fun Y4 => ck (inb (gI Y4.1 12 i0 1) 40) <| wr (sI Y4 16 i0 (ix (gI Y4.1 12 i0 1)) a4) fun Y6 => ck (inb (gI Y6.1 12 i0 1) 40) <| wr (sI Y6 17 i0 (ix (gI Y6.1 12 i0 1)) a4) fun Y8 => ck (inb (gI Y8.1 12 i0 1) 40) <| wr (sI Y8 18 i0 (ix (gI Y8.1 12 i0 1)) a5) fun Y10 => ck (inb (gI Y10.1 12 i0 1) 40) <| wr (sI Y10 19 i0 (ix (gI Y10.1 12 i0 1)) a1) fun Y12 => wr (sI Y12 12 i0 1 ((gI Y12.1 12 i0 1) + (nI 1))) fun Y13 => some ((), Y13))
/-- BallotBus$SetupReader.readRequest -/
def fn_66 (Y : Sm) : Option (Int32 × Sm) :=
  (if (gI Y.1 12 (Y.2 2) 1) < (nI 40) then bd (fn_95 Y) fun _ Y1 => bd (fn_98 Y1) fun v5 Y3 => (if v5 = (nI 0) then bd (fn_60 (nI 1) Y3) fun v44 Y42 => ck (bz v44) <| some (v44, Y42) else bd (fn_100 Y3) fun v8 Y6 => bd (fn_57 (Y3.2 2) v8 Y6) fun v11 Y9 => (if v11 = (-1 : Int32) then bd (fn_60 (nI 3) Y9) fun v40 Y38 => ck (bz v40) <| some (v40, Y38) else bd (fn_95 Y9) fun _ Y12 => bd (fn_98 Y12) fun v16 Y14 => (if v16 = (nI 0) then bd (fn_60 (nI 1) Y14) fun v36 Y34 => ck (bz v36) <| some (v36, Y34) else bd (fn_100 Y14) fun v19 Y17 => bd (fn_56 (Y14.2 2) v19 Y17) fun v22 Y20 => (if v22 = (-1 : Int32) then bd (fn_60 (nI 3) Y20) fun v32 Y30 => ck (bz v32) <| some (v32, Y30) else bd (fn_95 Y20) fun _ Y23 => bd (fn_69 (nI 1) (nI 20) Y23) fun v27 Y25 => bd (fn_36 (Y25.2 2) (gI Y25.1 12 (Y25.2 2) 1) v11 v22 v27 (nI 0) Y25) fun _ Y28 => (if (gI Y28.1 3 0 3) = (nI 0) then some ((nI 1), Y28) else some ((nI 0), Y28)))))) else bd (fn_60 (nI 4) Y) fun v48 Y46 => ck (bz v48) <| some (v48, Y46))
/-- BallotBus$Setup.addAsker -/
def fn_55 (i0 : Nat) (a1 : Int64) (a2 : Int32) (a3 : Int32) (Y : Sm) : Option (Unit × Sm) :=
  (if (nI 8) ≤ (gI Y.1 5 i0 3) then some ((), Y) else ck (inb (gI Y.1 5 i0 3) 8) <| wr (sJ Y 8 i0 (ix (gI Y.1 5 i0 3)) a1) fun Y2 => ck (inb (gI Y2.1 5 i0 3) 8) <| wr (sI Y2 9 i0 (ix (gI Y2.1 5 i0 3)) a2) fun Y4 => ck (inb (gI Y4.1 5 i0 3) 8) <| wr (sI Y4 10 i0 (ix (gI Y4.1 5 i0 3)) a3) fun Y6 => wr (sI Y6 5 i0 3 ((gI Y6.1 5 i0 3) + (nI 1))) fun Y7 => some ((), Y7))
/-- BallotBus$SetupReader.readAsker -/
def fn_65_J146 (l1 : Int64) (l3 : Int32) (l4 : Int32) (Y : Sm) : Option (Int32 × Sm) :=
  bd (fn_55 (Y.2 2) l1 l3 l4 Y) fun _ Y22 => (if (gI Y22.1 3 0 3) = (nI 0) then some ((nI 1), Y22) else some ((nI 0), Y22))
def fn_65 (Y : Sm) : Option (Int32 × Sm) :=
  (if (gI Y.1 5 (Y.2 2) 3) < (nI 8) then bd (fn_95 Y) fun _ Y1 => bd (fn_98 Y1) fun v5 Y3 => (if v5 = (nI 0) then bd (fn_60 (nI 1) Y3) fun v42 Y40 => ck (bz v42) <| some (v42, Y40) else bd (fn_100 Y3) fun v8 Y6 => bd (fn_57 (Y6.2 2) v8 Y6) fun v11 Y9 => (if v11 = (-1 : Int32) then bd (fn_95 Y9) fun _ Y12 => bd (fn_97 5 Y12) fun v16 Y14 => (if v16 = (nI 0) then bd (fn_60 (nI 1) Y14) fun v34 Y32 => ck (bz v34) <| some (v34, Y32) else bd (fn_95 Y14) fun _ Y17 => bd (fn_69 (nI 0) (nI 999) Y17) fun v21 Y19 => (if (gI Y19.1 3 0 3) = (nI 0) then bd (fn_97 6 Y19) fun v26 Y24 => (if v26 = (nI 0) then fn_65_J146 v8 v21 (nI 1) Y24 else bd (fn_95 Y24) fun _ Y27 => bd (fn_69 (nI 1) (nI 9) Y27) fun v31 Y29 => fn_65_J146 v8 v21 v31 Y29) else fn_65_J146 v8 v21 (nI 1) Y19)) else bd (fn_60 (nI 3) Y9) fun v38 Y36 => ck (bz v38) <| some (v38, Y36))) else bd (fn_60 (nI 4) Y) fun v46 Y44 => ck (bz v46) <| some (v46, Y44))
/-- BallotBus$SetupReader.readManner -/
def fn_64_J49 (t0 : Int32) (Y : Sm) : Option (Int32 × Sm) :=
  (if t0 = (nI 0) then some (t0, Y) else bd (fn_95 Y) fun _ Y10 => some (t0, Y10))
def fn_64 (Y : Sm) : Option (Int32 × Sm) :=
  bd (fn_97 1 Y) fun v3 Y1 => (if v3 = (nI 0) then bd (fn_97 2 Y1) fun v6 Y4 => (if v6 = (nI 0) then bd (fn_97 3 Y4) fun v9 Y7 => (if v9 = (nI 0) then fn_64_J49 (nI 0) Y7 else fn_64_J49 (nI 3) Y7) else fn_64_J49 (nI 2) Y4) else fn_64_J49 (nI 1) Y1)
/-- BallotBus$Setup.addKind -/
def fn_54 (i0 : Nat) (a1 : Int64) (a2 : Int32) (Y : Sm) : Option (Unit × Sm) :=
  (if (nI 5) ≤ (gI Y.1 5 i0 0) then some ((), Y) else ck (inb (gI Y.1 5 i0 0) 5) <| wr (sJ Y 6 i0 (ix (gI Y.1 5 i0 0)) a1) fun Y2 => ck (inb (gI Y2.1 5 i0 0) 5) <| wr (sI Y2 7 i0 (ix (gI Y2.1 5 i0 0)) a2) fun Y4 => wr (sI Y4 5 i0 0 ((gI Y4.1 5 i0 0) + (nI 1))) fun Y5 => some ((), Y5))
/-- BallotBus$SetupReader.readKind -/
def fn_63 (Y : Sm) : Option (Int32 × Sm) :=
  (if (gI Y.1 5 (Y.2 2) 0) < (nI 5) then bd (fn_95 Y) fun _ Y1 => bd (fn_98 Y1) fun v5 Y3 => (if v5 = (nI 0) then bd (fn_60 (nI 1) Y3) fun v25 Y23 => ck (bz v25) <| some (v25, Y23) else bd (fn_100 Y3) fun v8 Y6 => bd (fn_56 (Y6.2 2) v8 Y6) fun v11 Y9 => (if v11 = (-1 : Int32) then bd (fn_95 Y9) fun _ Y12 => bd (fn_64 Y12) fun v16 Y14 => bd (fn_54 (Y12.2 2) v8 v16 Y14) fun _ Y17 => some ((nI 1), Y17) else bd (fn_60 (nI 3) Y9) fun v21 Y19 => ck (bz v21) <| some (v21, Y19))) else bd (fn_60 (nI 4) Y) fun v29 Y27 => ck (bz v29) <| some (v29, Y27))
/-- BallotBus$SetupReader.readStatement -/
def fn_62 (Y : Sm) : Option (Int32 × Sm) :=
  bd (fn_97 0 Y) fun v3 Y1 => (if v3 = (nI 0) then bd (fn_97 4 Y1) fun v6 Y4 => (if v6 = (nI 0) then bd (fn_97 16 Y4) fun v9 Y7 => (if v9 = (nI 0) then bd (fn_97 7 Y7) fun v12 Y10 => (if v12 = (nI 0) then bd (fn_97 11 Y10) fun v15 Y13 => (if v15 = (nI 0) then bd (fn_97 12 Y13) fun v18 Y16 => (if v18 = (nI 0) then bd (fn_97 13 Y16) fun v21 Y19 => (if v21 = (nI 0) then bd (fn_97 14 Y19) fun v24 Y22 => (if v24 = (nI 0) then bd (fn_97 15 Y22) fun v27 Y25 => (if v27 = (nI 0) then bd (fn_60 (nI 1) Y25) fun v30 Y28 => ck (bz v30) <| some (v30, Y28) else bd (fn_68 (nI 4) (nI 1) (nI 9) Y25) fun v34 Y32 => ck (bz v34) <| some (v34, Y32)) else bd (fn_68 (nI 3) (nI 0) (nI 99) Y22) fun v38 Y36 => ck (bz v38) <| some (v38, Y36)) else bd (fn_68 (nI 2) (nI 0) (nI 99) Y19) fun v42 Y40 => ck (bz v42) <| some (v42, Y40)) else bd (fn_68 (nI 1) (nI 1) (nI 50) Y16) fun v46 Y44 => ck (bz v46) <| some (v46, Y44)) else bd (fn_68 (nI 0) (nI 1) (nI 20) Y13) fun v50 Y48 => ck (bz v50) <| some (v50, Y48)) else bd (fn_67 Y10) fun v54 Y52 => ck (bz v54) <| some (v54, Y52)) else bd (fn_66 Y7) fun v58 Y56 => ck (bz v58) <| some (v58, Y56)) else bd (fn_65 Y4) fun v62 Y60 => ck (bz v62) <| some (v62, Y60)) else bd (fn_63 Y1) fun v66 Y64 => ck (bz v66) <| some (v66, Y64))
/-- BallotBus$SetupReader.readSemicolon -/
def fn_61 (Y : Sm) : Option (Int32 × Sm) :=
  (if (gI Y.1 4 0 1) = (nI 3) then bd (fn_95 Y) fun _ Y1 => some ((nI 1), Y1) else bd (fn_60 (nI 1) Y) fun v5 Y3 => ck (bz v5) <| some (v5, Y3))
/-- BallotBus$SetupReader.read -/
def fn_59_L36 (l2 : Int32) (Y : Sm) : Option ((Int32 × Sm) ⊕ ((Sm) ⊕ (Int32 × Sm))) :=
  (if (nI 500) ≤ l2 then some (.inr (.inl (Y))) else (if (gI Y.1 3 0 3) = (nI 0) then (if (gI Y.1 4 0 1) = (nI 0) then some (.inr (.inl (Y))) else bd (fn_62 Y) fun v17 Y15 => (if v17 = (nI 0) then some (.inl ((l2 + (nI 1)), Y15)) else bd (fn_61 Y15) fun v20 Y18 => some (.inl ((l2 + (nI 1)), Y18)))) else some (.inr (.inl (Y)))))
def fn_59_J105 (Y : Sm) : Option (Int32 × Sm) :=
  bd (fn_60 (nI 5) Y) fun v23 Y21 => (if (gI Y21.1 3 0 3) = (nI 0) then some ((nI 1), Y21) else some ((nI 0), Y21))
def fn_59_J78 (Y : Sm) : Option (Int32 × Sm) :=
  (if (gI Y.1 3 0 3) = (nI 0) then (if (gI Y.1 5 (Y.2 2) 0) = (nI 0) then fn_59_J105 Y else (if (gI Y.1 5 (Y.2 2) 3) = (nI 0) then fn_59_J105 Y else (if (gI Y.1 3 0 3) = (nI 0) then some ((nI 1), Y) else some ((nI 0), Y)))) else (if (gI Y.1 3 0 3) = (nI 0) then some ((nI 1), Y) else some ((nI 0), Y)))
def fn_59 (i1 : Nat) (Y : Sm) : Option (Int32 × Sm) :=
  wr (sG Y 2 i1) fun Y1 => bd (fn_52 (Y1.2 2) Y1) fun _ Y2 => wr (sI Y2 3 0 2 (nI 0)) fun Y4 => wr (sI Y4 3 0 3 (nI 0)) fun Y5 => wr (sI Y5 3 0 4 (-1 : Int32)) fun Y6 => bd (fn_94 Y6) fun _ Y7 => exd (lp (fun s => fn_59_L36 s.1 s.2) FU ((nI 0), Y7)) fun s9 => fn_59_J78 s9
/-- BallotBus$Rows.number -/
def fn_43_22_L2 (l0 : Nat) (l1 : Int32) (Y : Sm) : Option ((Int32 × Sm) ⊕ (Unit × Sm)) :=
  (if (nI 5) ≤ l1 then some (.inr ((), Y)) else ck (inb l1 5) <| wr (sI Y 22 l0 (ix l1) l1) fun Y5 => some (.inl ((l1 + (nI 1)), Y5)))
def fn_43_22 (i0 : Nat) (Y : Sm) : Option (Unit × Sm) :=
  lp (fun s => fn_43_22_L2 i0 s.1 s.2) FU ((nI 0), Y)
/-- BallotBus$Rows.number -/
def fn_43_27_L2 (l0 : Nat) (l1 : Int32) (Y : Sm) : Option ((Int32 × Sm) ⊕ (Unit × Sm)) :=
  (if (nI 5) ≤ l1 then some (.inr ((), Y)) else ck (inb l1 5) <| wr (sI Y 27 l0 (ix l1) l1) fun Y5 => some (.inl ((l1 + (nI 1)), Y5)))
def fn_43_27 (i0 : Nat) (Y : Sm) : Option (Unit × Sm) :=
  lp (fun s => fn_43_27_L2 i0 s.1 s.2) FU ((nI 0), Y)
/-- BallotBus$Accounts.begin -/
def fn_1_L2 (l0 : Nat) (l1 : Nat) (l2 : Int32) (Y : Sm) : Option ((Int32 × Sm) ⊕ (Unit × Sm)) :=
  (if (nI 8) ≤ l2 then some (.inr ((), Y)) else ck (inb l2 8) <| wr (sI Y 29 l0 (ix l2) (gI Y.1 9 l1 (ix l2))) fun Y5 => wr (sI Y5 30 l0 (ix l2) (nI 0)) fun Y6 => wr (sI Y6 31 l0 (ix l2) (nI 0)) fun Y7 => wr (sI Y7 32 l0 (ix l2) (nI 0)) fun Y8 => wr (sI Y8 33 l0 (ix l2) (nI 0)) fun Y9 => wr (sI Y9 34 l0 (ix l2) (nI 0)) fun Y10 => some (.inl ((l2 + (nI 1)), Y10)))
def fn_1 (i0 : Nat) (i1 : Nat) (Y : Sm) : Option (Unit × Sm) :=
  lp (fun s => fn_1_L2 i0 i1 s.1 s.2) FU ((nI 0), Y)
/-- BallotBus$Requests.copyFrom -/
def fn_35 (i0 : Nat) (i1 : Nat) (Y : Sm) : Option (Unit × Sm) :=
  wr (sI Y 12 i0 1 (gI Y.1 12 i1 1)) fun Y1 => wr (sI Y1 12 i0 2 (gI Y1.1 12 i1 2)) fun Y2 => wr (sC Y2 14 i1 0 14 i0 0 40) fun Y3 => wr (sC Y3 15 i1 0 15 i0 0 40) fun Y4 => wr (sC Y4 16 i1 0 16 i0 0 40) fun Y5 => wr (sC Y5 17 i1 0 17 i0 0 40) fun Y6 => wr (sC Y6 18 i1 0 18 i0 0 40) fun Y7 => wr (sC Y7 19 i1 0 19 i0 0 40) fun Y8 => some ((), Y8)
/-- BallotBus$AnswerLog.clear -/
def fn_9 (i0 : Nat) (Y : Sm) : Option (Unit × Sm) :=
  wr (sI Y 35 i0 1 (nI 0)) fun Y1 => wr (sI Y1 35 i0 2 (nI 0)) fun Y2 => some ((), Y2)
/-- BallotBus$State.begin -/
def fn_71_L63 (l0 : Nat) (l1 : Nat) (l2 : Int32) (Y : Sm) : Option ((Int32 × Sm) ⊕ ((Sm) ⊕ (Unit × Sm))) :=
  (if (nI 5) ≤ l2 then some (.inr (.inl (Y))) else ck (inb l2 5) <| wr (sI Y 23 l0 (ix l2) (gI Y.1 7 l1 (ix l2))) fun Y19 => wr (sI Y19 24 l0 (ix l2) (nI 0)) fun Y20 => wr (sJ Y20 25 l0 (ix l2) (Int64.ofNat 0)) fun Y21 => some (.inl ((l2 + (nI 1)), Y21)))
def fn_71_L102 (l0 : Nat) (l1 : Nat) (l2 : Int32) (Y : Sm) : Option ((Int32 × Sm) ⊕ ((Sm) ⊕ (Unit × Sm))) :=
  (if (nI 8) ≤ l2 then some (.inr (.inl (Y))) else ck (inb l2 8) <| bd (fn_43_27 (8 * l0 + ix l2) Y) fun _ Y29 => some (.inl ((l2 + (nI 1)), Y29)))
def fn_71_J123 (l0 : Nat) (l1 : Nat) (Y : Sm) : Option (Unit × Sm) :=
  bd (fn_1 l0 l1 Y) fun _ Y31 => bd (fn_35 (l0 + 3) l1 Y31) fun _ Y33 => bd (fn_9 l0 Y33) fun _ Y35 => some ((), Y35)
def fn_71_J100 (l0 : Nat) (l1 : Nat) (Y : Sm) : Option (Unit × Sm) :=
  exd (lp (fun s => fn_71_L102 l0 l1 s.1 s.2) FU ((nI 0), Y)) fun s9 => fn_71_J123 l0 l1 s9
def fn_71 (i0 : Nat) (i1 : Nat) (Y : Sm) : Option (Unit × Sm) :=
  wr (sG Y (i0 + 3) i1) fun Y1 => wr (sI Y1 21 i0 1 (nI 0)) fun Y2 => wr (sI Y2 21 i0 2 (gI Y2.1 5 i1 7)) fun Y3 => wr (sI Y3 21 i0 3 (nI 0)) fun Y4 => wr (sI Y4 21 i0 4 (nI 0)) fun Y5 => wr (sI Y5 21 i0 5 (nI 0)) fun Y6 => wr (sI Y6 21 i0 6 (nI 0)) fun Y7 => wr (sI Y7 21 i0 7 (gI Y7.1 12 i1 1)) fun Y8 => wr (sI Y8 21 i0 8 (nI 0)) fun Y9 => bd (fn_43_22 i0 Y9) fun _ Y10 => exd (lp (fun s => fn_71_L63 i0 i1 s.1 s.2) FU ((nI 0), Y10)) fun s9 => fn_71_J100 i0 i1 s9
/-- BallotBus.parse -/
def fn_106 (Y : Sm) : Option (Int32 × Sm) :=
  bd (fn_59 (Y.2 1) Y) fun v3 Y1 => wr (sI Y1 1 0 1 (nI 0)) fun Y4 => wr (sI Y4 0 0 4 (gI Y4.1 3 0 3)) fun Y5 => wr (sI Y5 0 0 5 (gI Y5.1 3 0 4)) fun Y6 => (if v3 = (nI 0) then some ((-1 : Int32), Y6) else wr (sG Y6 0 (Y6.2 1)) fun Y7 => wr (sG Y7 1 (Y6.2 0)) fun Y8 => bd (fn_71 0 (Y8.2 0) Y8) fun _ Y9 => wr (sI Y9 37 0 2 (nI 0)) fun Y11 => wr (sI Y11 0 0 11 (nI 0)) fun Y12 => some ((gI Y12.1 5 (Y12.2 0) 0), Y12))
/-- BallotBus.errorCode -/
def fn_107 (Y : Sm) : Option (Int32 × Sm) :=
  some ((gI Y.1 0 0 4), Y)
/-- BallotBus.errorOffset -/
def fn_108 (Y : Sm) : Option (Int32 × Sm) :=
  some ((gI Y.1 0 0 5), Y)
/-- BallotBus$Requests.waiting -/
def fn_41 (i0 : Nat) (Y : Sm) : Option (Int32 × Sm) :=
  (if (gI Y.1 12 i0 2) = (-1 : Int32) then some ((gI Y.1 12 i0 1), Y) else some (((gI Y.1 12 i0 1) - (nI 1)), Y))
/-- BallotBus.count -/
def fn_109_J23 (l1 : Int32) (Y : Sm) : Option (Int32 × Sm) :=
  (if l1 = (nI 0) then some ((gI Y.1 5 (Y.2 0) 0), Y) else (if l1 = (nI 1) then some ((gI Y.1 5 (Y.2 0) 3), Y) else (if l1 = (nI 2) then some ((gI Y.1 21 0 1), Y) else (if l1 = (nI 3) then some ((gI Y.1 21 0 2), Y) else (if l1 = (nI 4) then some ((-1 : Int32), Y) else (if l1 = (nI 5) then some ((-1 : Int32), Y) else (if l1 = (nI 6) then some ((-1 : Int32), Y) else (if l1 = (nI 7) then some ((-1 : Int32), Y) else (if l1 = (nI 8) then some ((-1 : Int32), Y) else (if l1 = (nI 9) then bd (fn_41 3 Y) fun v19 Y17 => some (v19, Y17) else (if l1 = (nI 10) then some ((gI Y.1 21 0 8), Y) else (if l1 = (nI 11) then some ((gI Y.1 21 0 7), Y) else (if l1 = (nI 12) then some ((gI Y.1 21 0 3), Y) else (if l1 = (nI 13) then some ((gI Y.1 21 0 5), Y) else (if l1 = (nI 14) then some ((gI Y.1 21 0 6), Y) else (if l1 = (nI 15) then some ((gI Y.1 37 0 2), Y) else some ((-1 : Int32), Y)))))))))))))))))
def fn_109 (a1 : Int32) (Y : Sm) : Option (Int32 × Sm) :=
  (if a1 < (nI 4) then fn_109_J23 a1 Y else (if (nI 9) ≤ a1 then fn_109_J23 a1 Y else ck (inb (a1 - (nI 4)) 5) <| some ((gI Y.1 11 (Y.2 0) (ix (a1 - (nI 4)))), Y)))
/-- BallotBus$Input.asName -/
def fn_22_L23 (l1 : Int32) (Y : Sm) : Option ((Int32 × Sm) ⊕ ((Sm) ⊕ (Int64 × Sm))) :=
  (if (gI Y.1 1 0 1) ≤ l1 then some (.inr (.inl (Y))) else bd (fn_19 l1 Y) fun v9 Y7 => (if v9 = (nI 0) then some (.inr (.inr ((((-1 : Int32)).toInt64), Y7))) else some (.inl ((l1 + (nI 1)), Y7))))
def fn_22_J49 (Y : Sm) : Option (Int64 × Sm) :=
  bd (fn_23 (nI 0) (gI Y.1 1 0 1) Y) fun v12 Y10 => some (v12, Y10)
def fn_22 (Y : Sm) : Option (Int64 × Sm) :=
  (if (gI Y.1 1 0 1) < (nI 1) then some ((((-1 : Int32)).toInt64), Y) else (if (gI Y.1 1 0 1) ≤ (nI 6) then exd (lp (fun s => fn_22_L23 s.1 s.2) FU ((nI 0), Y)) fun s9 => fn_22_J49 s9 else some ((((-1 : Int32)).toInt64), Y)))
/-- BallotBus.find -/
def fn_110 (a1 : Int32) (Y : Sm) : Option (Int32 × Sm) :=
  bd (fn_22 Y) fun v3 Y1 => wr (sI Y1 1 0 1 (nI 0)) fun Y4 => (if a1 = (nI 0) then bd (fn_56 (Y4.2 0) v3 Y4) fun v7 Y5 => some (v7, Y5) else bd (fn_57 (Y4.2 0) v3 Y4) fun v10 Y8 => some (v10, Y8))
/-- BallotBus.checkAsker -/
def fn_154 (a1 : Int32) (Y : Sm) : Option ((Unit ⊕ Nat) × Sm) :=
  (if a1 < (nI 0) then some (.inr 0, Y) else (if a1 < (gI Y.1 5 (Y.2 0) 3) then some (.inl (), Y) else some (.inr 0, Y)))
/-- BallotBus$State.isHeard -/
def fn_73 (i0 : Nat) (a1 : Int32) (Y : Sm) : Option (Int32 × Sm) :=
  ck (inb a1 8) <| (if (gI Y.1 11 (Y.2 (i0 + 3)) 4) ≤ (gI Y.1 31 i0 (ix a1)) then some ((nI 0), Y) else some ((nI 1), Y))
/-- BallotBus$Requests.waits -/
def fn_40 (i0 : Nat) (a1 : Int32) (Y : Sm) : Option (Int32 × Sm) :=
  ck (inb a1 40) <| (if (gI Y.1 19 i0 (ix a1)) = (gI Y.1 12 i0 2) then some ((nI 0), Y) else some ((nI 1), Y))
/-- BallotBus$Requests.waitingWith -/
def fn_42_12_c0_L5 (l0 : Nat) (l2 : Int32) (l3 : Int32) (l4 : Int32) (Y : Sm) : Option ((Int32 × Int32 × Sm) ⊕ (Int32 × Sm)) :=
  (if (gI Y.1 12 l0 1) ≤ l4 then some (.inr (l3, Y)) else ck (inb l4 40) <| (if (gI Y.1 14 l0 (ix l4)) = l2 then bd (fn_40 l0 l4 Y) fun v7 Y5 => (if v7 = (nI 0) then some (.inl (l3, (l4 + (nI 1)), Y5)) else some (.inl ((l3 + (nI 1)), (l4 + (nI 1)), Y5))) else some (.inl (l3, (l4 + (nI 1)), Y))))
def fn_42_12_c0 (i0 : Nat) (a2 : Int32) (Y : Sm) : Option (Int32 × Sm) :=
  lp (fun s => fn_42_12_c0_L5 i0 a2 s.1 s.2.1 s.2.2) FU ((nI 0), (nI 0), Y)
/-- BallotBus.asker -/
def fn_111 (a1 : Int32) (a2 : Int32) (Y : Sm) : Option ((Int32 ⊕ Nat) × Sm) :=
  bx (fn_154 a1 Y) (fun x26 Y1 => some (.inr x26, Y1)) fun _ Y1 => (if a2 = (nI 0) then ck (inb a1 8) <| some (.inl (gI Y1.1 29 0 (ix a1)), Y1) else (if a2 = (nI 1) then ck (inb a1 8) <| some (.inl (gI Y1.1 30 0 (ix a1)), Y1) else (if a2 = (nI 2) then ck (inb a1 8) <| some (.inl (gI Y1.1 10 (Y1.2 0) (ix a1)), Y1) else (if a2 = (nI 3) then ck (inb a1 8) <| some (.inl (gI Y1.1 31 0 (ix a1)), Y1) else (if a2 = (nI 4) then bd (fn_73 0 a1 Y1) fun v19 Y17 => (if v19 = (nI 0) then some (.inl (nI 0), Y17) else some (.inl (nI 1), Y17)) else (if a2 = (nI 5) then (if (gI Y1.1 21 0 3) = a1 then (if (gI Y1.1 21 0 4) = (nI 0) then some (.inl (nI 0), Y1) else some (.inl (nI 1), Y1)) else some (.inl (nI 0), Y1)) else (if a2 = (nI 6) then bd (fn_42_12_c0 3 a1 Y1) fun v22 Y20 => some (.inl v22, Y20) else (if a2 = (nI 7) then ck (inb a1 8) <| some (.inl (gI Y1.1 32 0 (ix a1)), Y1) else (if a2 = (nI 8) then ck (inb a1 8) <| some (.inl (gI Y1.1 33 0 (ix a1)), Y1) else (if a2 = (nI 9) then ck (inb a1 8) <| some (.inl (gI Y1.1 34 0 (ix a1)), Y1) else some (.inr 0, Y1)))))))))))
/-- BallotBus.checkKind -/
def fn_155 (a1 : Int32) (Y : Sm) : Option ((Unit ⊕ Nat) × Sm) :=
  (if a1 < (nI 0) then some (.inr 0, Y) else (if a1 < (gI Y.1 5 (Y.2 0) 0) then some (.inl (), Y) else some (.inr 0, Y)))
/-- BallotBus$Requests.waitingWith -/
def fn_42_12_c1_L5 (l0 : Nat) (l2 : Int32) (l3 : Int32) (l4 : Int32) (Y : Sm) : Option ((Int32 × Int32 × Sm) ⊕ (Int32 × Sm)) :=
  (if (gI Y.1 12 l0 1) ≤ l4 then some (.inr (l3, Y)) else ck (inb l4 40) <| (if (gI Y.1 15 l0 (ix l4)) = l2 then bd (fn_40 l0 l4 Y) fun v7 Y5 => (if v7 = (nI 0) then some (.inl (l3, (l4 + (nI 1)), Y5)) else some (.inl ((l3 + (nI 1)), (l4 + (nI 1)), Y5))) else some (.inl (l3, (l4 + (nI 1)), Y))))
def fn_42_12_c1 (i0 : Nat) (a2 : Int32) (Y : Sm) : Option (Int32 × Sm) :=
  lp (fun s => fn_42_12_c1_L5 i0 a2 s.1 s.2.1 s.2.2) FU ((nI 0), (nI 0), Y)
/-- BallotBus$Rows.placeOf -/
def fn_45_22_L2 (l0 : Nat) (l1 : Int32) (l2 : Int32) (l3 : Int32) (Y : Sm) : Option ((Int32 × Sm) ⊕ (Int32 × Sm)) :=
  (if l1 ≤ l3 then some (.inr ((-1 : Int32), Y)) else (if (nI 5) ≤ l3 then some (.inr ((-1 : Int32), Y)) else ck (inb l3 5) <| (if (gI Y.1 22 l0 (ix l3)) = l2 then some (.inr (l3, Y)) else some (.inl ((l3 + (nI 1)), Y)))))
def fn_45_22 (i0 : Nat) (a1 : Int32) (a2 : Int32) (Y : Sm) : Option (Int32 × Sm) :=
  lp (fun s => fn_45_22_L2 i0 a1 a2 s.1 s.2) FU ((nI 0), Y)
/-- BallotBus$State.isVetoed -/
def fn_74 (i0 : Nat) (a1 : Int32) (Y : Sm) : Option (Int32 × Sm) :=
  (if ((gI Y.1 21 i0 5) &&& ((nI 1) <<< (a1 &&& 31))) = (nI 0) then some ((nI 0), Y) else some ((nI 1), Y))
/-- BallotBus$State.isInLine -/
def fn_79 (i0 : Nat) (a1 : Int32) (a2 : Int32) (Y : Sm) : Option (Int32 × Sm) :=
  ck (inb a1 40) <| (if (gI Y.1 15 (i0 + 3) (ix a1)) = a2 then bd (fn_40 (i0 + 3) a1 Y) fun v4 Y2 => (if v4 = (nI 0) then some ((nI 0), Y2) else some ((nI 1), Y2)) else some ((nI 0), Y))
/-- BallotBus$State.rankInLine -/
def fn_80 (i0 : Nat) (a1 : Int32) (Y : Sm) : Option (Int32 × Sm) :=
  ck (inb a1 40) <| ck (inb (gI Y.1 15 (i0 + 3) (ix a1)) 5) <| (if (gI Y.1 23 i0 (ix (gI Y.1 15 (i0 + 3) (ix a1)))) = (nI 1) then some ((gI Y.1 16 (i0 + 3) (ix a1)), Y) else (if (gI Y.1 23 i0 (ix (gI Y.1 15 (i0 + 3) (ix a1)))) = (nI 2) then ck (inb (gI Y.1 14 (i0 + 3) (ix a1)) 8) <| some ((-(gI Y.1 29 i0 (ix (gI Y.1 14 (i0 + 3) (ix a1))))), Y) else (if (gI Y.1 23 i0 (ix (gI Y.1 15 (i0 + 3) (ix a1)))) = (nI 3) then ck (inb (gI Y.1 14 (i0 + 3) (ix a1)) 8) <| some ((-(gI Y.1 30 i0 (ix (gI Y.1 14 (i0 + 3) (ix a1))))), Y) else some ((nI 0), Y))))
/-- BallotBus$State.firstOf -/
def fn_76_L4 (l0 : Nat) (l1 : Int32) (l2 : Int32) (l3 : Int32) (Y : Sm) : Option ((Int32 × Int32 × Sm) ⊕ (Int32 × Sm)) :=
  (if (gI Y.1 12 (l0 + 3) 1) ≤ l3 then some (.inr (l2, Y)) else bd (fn_79 l0 l3 l1 Y) fun v6 Y4 => (if v6 = (nI 0) then some (.inl (l2, (l3 + (nI 1)), Y4)) else (if l2 = (-1 : Int32) then some (.inl (l3, (l3 + (nI 1)), Y4)) else bd (fn_80 l0 l3 Y4) fun v9 Y7 => bd (fn_80 l0 l2 Y7) fun v12 Y10 => (if v12 ≤ v9 then some (.inl (l2, (l3 + (nI 1)), Y10)) else some (.inl (l3, (l3 + (nI 1)), Y10))))))
def fn_76 (i0 : Nat) (a1 : Int32) (Y : Sm) : Option (Int32 × Sm) :=
  lp (fun s => fn_76_L4 i0 a1 s.1 s.2.1 s.2.2) FU ((-1 : Int32), (nI 0), Y)
/-- BallotBus$Requests.serialAt -/
def fn_39 (i0 : Nat) (a1 : Int32) (Y : Sm) : Option (Int32 × Sm) :=
  (if a1 < (nI 0) then some ((-1 : Int32), Y) else (if a1 < (gI Y.1 12 i0 1) then ck (inb a1 40) <| some ((gI Y.1 19 i0 (ix a1)), Y) else some ((-1 : Int32), Y)))
/-- BallotBus.kind -/
def fn_112 (a1 : Int32) (a2 : Int32) (Y : Sm) : Option ((Int32 ⊕ Nat) × Sm) :=
  bx (fn_155 a1 Y) (fun x26 Y1 => some (.inr x26, Y1)) fun _ Y1 => (if a2 = (nI 0) then ck (inb a1 5) <| some (.inl (gI Y1.1 23 0 (ix a1)), Y1) else (if a2 = (nI 1) then bd (fn_42_12_c1 3 a1 Y1) fun v12 Y10 => some (.inl v12, Y10) else (if a2 = (nI 2) then ck (inb a1 5) <| some (.inl (gI Y1.1 24 0 (ix a1)), Y1) else (if a2 = (nI 3) then bd (fn_45_22 0 (gI Y1.1 5 (Y1.2 0) 0) a1 Y1) fun v16 Y14 => some (.inl v16, Y14) else (if a2 = (nI 4) then bd (fn_74 0 a1 Y1) fun v19 Y17 => (if v19 = (nI 0) then some (.inl (nI 0), Y17) else some (.inl (nI 1), Y17)) else (if a2 = (nI 5) then bd (fn_76 0 a1 Y1) fun v22 Y20 => bd (fn_39 3 v22 Y20) fun v25 Y23 => some (.inl v25, Y23) else some (.inr 0, Y1)))))))
/-- BallotBus.ballot -/
def fn_113 (a1 : Int32) (a2 : Int32) (Y : Sm) : Option ((Int32 ⊕ Nat) × Sm) :=
  bx (fn_154 a1 Y) (fun x10 Y1 => some (.inr x10, Y1)) fun _ Y1 => bx (fn_155 a2 Y1) (fun x7 Y3 => some (.inr x7, Y3)) fun _ Y3 => ck (inb a1 8) <| ck (inb a2 5) <| some (.inl (gI Y3.1 27 (8 * 0 + ix a1) (ix a2)), Y3)
/-- BallotBus.order -/
def fn_114 (a1 : Int32) (Y : Sm) : Option ((Int32 ⊕ Nat) × Sm) :=
  bx (fn_155 a1 Y) (fun x4 Y1 => some (.inr x4, Y1)) fun _ Y1 => ck (inb a1 5) <| some (.inl (gI Y1.1 22 0 (ix a1)), Y1)
/-- BallotBus$Requests.indexOf -/
def fn_38_L2 (l0 : Nat) (l1 : Int32) (l2 : Int32) (Y : Sm) : Option ((Int32 × Sm) ⊕ (Int32 × Sm)) :=
  (if (gI Y.1 12 l0 1) ≤ l2 then some (.inr ((-1 : Int32), Y)) else ck (inb l2 40) <| (if (gI Y.1 19 l0 (ix l2)) = l1 then some (.inr (l2, Y)) else some (.inl ((l2 + (nI 1)), Y))))
def fn_38 (i0 : Nat) (a1 : Int32) (Y : Sm) : Option (Int32 × Sm) :=
  lp (fun s => fn_38_L2 i0 a1 s.1 s.2) FU ((nI 0), Y)
/-- BallotBus.indexOfRequest -/
def fn_158 (a1 : Int32) (Y : Sm) : Option ((Int32 ⊕ Nat) × Sm) :=
  bd (fn_38 3 a1 Y) fun v3 Y1 => (if v3 = (-1 : Int32) then some (.inr 3, Y1) else some (.inl v3, Y1))
/-- BallotBus.request -/
def fn_115 (a1 : Int32) (a2 : Int32) (Y : Sm) : Option ((Int32 ⊕ Nat) × Sm) :=
  (if a2 < (nI 0) then some (.inr 1, Y) else (if a2 ≤ (nI 4) then if a2 = (nI 0) then bx (fn_158 a1 Y) (fun x5 Y1 => some (.inr x5, Y1)) fun v3 Y1 => ck (inb v3 40) <| some (.inl (gI Y1.1 14 3 (ix v3)), Y1) else if a2 = (nI 1) then bx (fn_158 a1 Y) (fun x12 Y8 => some (.inr x12, Y8)) fun v10 Y8 => ck (inb v10 40) <| some (.inl (gI Y8.1 15 3 (ix v10)), Y8) else if a2 = (nI 2) then bx (fn_158 a1 Y) (fun x19 Y15 => some (.inr x19, Y15)) fun v17 Y15 => ck (inb v17 40) <| some (.inl (gI Y15.1 16 3 (ix v17)), Y15) else if a2 = (nI 3) then bx (fn_158 a1 Y) (fun x26 Y22 => some (.inr x26, Y22)) fun v24 Y22 => ck (inb v24 40) <| some (.inl (gI Y22.1 17 3 (ix v24)), Y22) else if a2 = (nI 4) then bx (fn_158 a1 Y) (fun x33 Y29 => some (.inr x33, Y29)) fun v31 Y29 => ck (inb v31 40) <| some (.inl (gI Y29.1 18 3 (ix v31)), Y29) else if a2 = (nI 5) then bx (fn_158 a1 Y) (fun x40 Y36 => some (.inr x40, Y36)) fun v38 Y36 => ck (inb v38 40) <| some (.inl (gI Y36.1 19 3 (ix v38)), Y36) else none else some (.inr 1, Y)))
/-- BallotBus$State.numberAhead -/
def fn_78_L12 (l0 : Nat) (l1 : Int32) (l2 : Int32) (l4 : Int32) (l3 : Int32) (l5 : Int32) (Y : Sm) : Option ((Int32 × Int32 × Sm) ⊕ (Int32 × Sm)) :=
  (if (gI Y.1 12 (l0 + 3) 1) ≤ l5 then some (.inr (l3, Y)) else bd (fn_79 l0 l5 l2 Y) fun v9 Y7 => (if v9 = (nI 0) then some (.inl (l3, (l5 + (nI 1)), Y7)) else bd (fn_80 l0 l5 Y7) fun v12 Y10 => (if v12 < l4 then some (.inl ((l3 + (nI 1)), (l5 + (nI 1)), Y10)) else bd (fn_80 l0 l5 Y10) fun v15 Y13 => (if v15 = l4 then (if l1 ≤ l5 then some (.inl (l3, (l5 + (nI 1)), Y13)) else some (.inl ((l3 + (nI 1)), (l5 + (nI 1)), Y13))) else some (.inl (l3, (l5 + (nI 1)), Y13))))))
def fn_78 (i0 : Nat) (a1 : Int32) (a2 : Int32) (Y : Sm) : Option (Int32 × Sm) :=
  bd (fn_80 i0 a1 Y) fun v3 Y1 => lp (fun s => fn_78_L12 i0 a1 a2 v3 s.1 s.2.1 s.2.2) FU ((nI 0), (nI 0), Y1)
/-- BallotBus$State.inLine -/
def fn_77_L2 (l0 : Nat) (l1 : Int32) (l2 : Int32) (l3 : Int32) (Y : Sm) : Option ((Int32 × Sm) ⊕ (Int32 × Sm)) :=
  (if (gI Y.1 12 (l0 + 3) 1) ≤ l3 then some (.inr ((-1 : Int32), Y)) else bd (fn_79 l0 l3 l1 Y) fun v6 Y4 => (if v6 = (nI 0) then some (.inl ((l3 + (nI 1)), Y4)) else bd (fn_78 l0 l3 l1 Y4) fun v9 Y7 => (if v9 = l2 then some (.inr (l3, Y7)) else some (.inl ((l3 + (nI 1)), Y7)))))
def fn_77 (i0 : Nat) (a1 : Int32) (a2 : Int32) (Y : Sm) : Option (Int32 × Sm) :=
  lp (fun s => fn_77_L2 i0 a1 a2 s.1 s.2) FU ((nI 0), Y)
/-- BallotBus.line -/
def fn_116 (a1 : Int32) (a2 : Int32) (Y : Sm) : Option ((Int32 ⊕ Nat) × Sm) :=
  bx (fn_155 a1 Y) (fun x9 Y1 => some (.inr x9, Y1)) fun _ Y1 => bd (fn_77 0 a1 a2 Y1) fun v5 Y3 => (if v5 = (-1 : Int32) then some (.inr 3, Y3) else bd (fn_39 3 v5 Y3) fun v8 Y6 => some (.inl v8, Y6))
/-- BallotBus.progress -/
def fn_117 (Y : Sm) : Option (Int32 × Sm) :=
  some ((gI Y.1 12 3 2), Y)
/-- BallotBus$AnswerLog.look -/
def fn_12 (i0 : Nat) (a1 : Int32) (a2 : Int32) (Y : Sm) : Option (Int32 × Sm) :=
  (if (nI 0) ≤ (((((gI Y.1 35 i0 1) - (nI 1)) - a1) + (nI 60)) - ((((gI Y.1 35 i0 1) - (nI 1)) - a1) + (nI 60)) / (nI 60) * (nI 60)) then ck (inb (((((((gI Y.1 35 i0 1) - (nI 1)) - a1) + (nI 60)) - ((((gI Y.1 35 i0 1) - (nI 1)) - a1) + (nI 60)) / (nI 60) * (nI 60)) * (nI 6)) + a2) 360) <| some ((gI Y.1 36 i0 (ix (((((((gI Y.1 35 i0 1) - (nI 1)) - a1) + (nI 60)) - ((((gI Y.1 35 i0 1) - (nI 1)) - a1) + (nI 60)) / (nI 60) * (nI 60)) * (nI 6)) + a2))), Y) else some ((-1 : Int32), Y))
/-- BallotBus.answer -/
def fn_118 (a1 : Int32) (a2 : Int32) (Y : Sm) : Option ((Int32 ⊕ Nat) × Sm) :=
  (if a2 < (nI 0) then some (.inr 1, Y) else (if a2 < (nI 6) then (if a1 < (nI 0) then some (.inr 3, Y) else (if a1 < (gI Y.1 35 0 2) then bd (fn_12 0 a1 a2 Y) fun v3 Y1 => some (.inl v3, Y1) else some (.inr 3, Y))) else some (.inr 1, Y)))
/-- BallotBus$Poll.clear -/
def fn_26_L33_d1 (l2 : Int32) (l3 : Int32) (Y : Sm) : Option ((Int32 × Sm) ⊕ ((Int32 × Sm) ⊕ (Unit × Sm))) :=
  (if (nI 5) ≤ l3 then some (.inr (.inl ((l2 + (nI 1)), Y))) else ck (inb l2 5) <| ck (inb l3 5) <| wr (sI Y 43 (ix l2) (ix l3) (nI 0)) fun Y14 => wr (sI Y14 45 (ix l2) (ix l3) (nI 0)) fun Y15 => some (.inl ((l3 + (nI 1)), Y15)))
def fn_26_L12 (l2 : Int32) (Y : Sm) : Option ((Int32 × Sm) ⊕ (Unit × Sm)) :=
  (if (nI 5) ≤ l2 then some (.inr ((), Y)) else ck (inb l2 5) <| wr (sI Y 40 0 (ix l2) (nI 0)) fun Y7 => wr (sI Y7 41 0 (ix l2) (nI 0)) fun Y8 => lp (fun s => fn_26_L33_d1 l2 s.1 s.2) FU ((nI 0), Y8))
def fn_26 (a1 : Int32) (Y : Sm) : Option (Unit × Sm) :=
  wr (sI Y 39 0 0 a1) fun Y1 => wr (sI Y1 39 0 1 (nI 0)) fun Y2 => lp (fun s => fn_26_L12 s.1 s.2) FU ((nI 0), Y2)
/-- BallotBus$Poll.addBallot -/
def fn_27_L63_d1 (l1 : Nat) (l2 : Int32) (l3 : Int32) (l4 : Int32) (l5 : Int32) (Y : Sm) : Option ((Int32 × Sm) ⊕ ((Int32 × Sm) ⊕ (Unit × Sm))) :=
  (if (gI Y.1 39 0 0) ≤ l5 then some (.inr (.inl ((l3 + (nI 1)), Y))) else ck (inb l4 5) <| ck (inb l5 5) <| ck (inb (gI Y.1 27 l1 (ix l5)) 5) <| wr (sI Y 45 (ix l4) (ix (gI Y.1 27 l1 (ix l5))) ((gI Y.1 45 (ix l4) (ix (gI Y.1 27 l1 (ix l5)))) + l2)) fun Y15 => some (.inl ((l5 + (nI 1)), Y15)))
def fn_27_L12 (l1 : Nat) (l2 : Int32) (l3 : Int32) (Y : Sm) : Option ((Int32 × Sm) ⊕ (Unit × Sm)) :=
  (if (gI Y.1 39 0 0) ≤ l3 then some (.inr ((), Y)) else ck (inb l3 5) <| ck (inb (gI Y.1 27 l1 (ix l3)) 5) <| wr (sI Y 40 0 (ix (gI Y.1 27 l1 (ix l3))) ((gI Y.1 40 0 (ix (gI Y.1 27 l1 (ix l3)))) + (l2 * (((gI Y.1 39 0 0) - (nI 1)) - l3)))) fun Y7 => wr (sI Y7 43 (ix (gI Y.1 27 l1 (ix l3))) (ix l3) ((gI Y7.1 43 (ix (gI Y.1 27 l1 (ix l3))) (ix l3)) + l2)) fun Y8 => lp (fun s => fn_27_L63_d1 l1 l2 l3 (gI Y.1 27 l1 (ix l3)) s.1 s.2) FU ((l3 + (nI 1)), Y8))
def fn_27 (i1 : Nat) (a2 : Int32) (Y : Sm) : Option (Unit × Sm) :=
  wr (sI Y 39 0 1 ((gI Y.1 39 0 1) + a2)) fun Y1 => lp (fun s => fn_27_L12 i1 a2 s.1 s.2) FU ((nI 0), Y1)
/-- BallotBus$Poll.defeats -/
def fn_28 (a1 : Int32) (a2 : Int32) (Y : Sm) : Option (Int32 × Sm) :=
  ck (inb a1 5) <| ck (inb a2 5) <| (if (gI Y.1 45 (ix a1) (ix a2)) ≤ (gI Y.1 45 (ix a2) (ix a1)) then some ((nI 0), Y) else some ((nI 1), Y))
/-- BallotBus$Poll.countVotes -/
def fn_25_L13 (l1 : Nat) (l2 : Int32) (l3 : Int32) (Y : Sm) : Option ((Int32 × Sm) ⊕ ((Sm) ⊕ (Unit × Sm))) :=
  (if (gI Y.1 5 (Y.2 (l1 + 3)) 3) ≤ l3 then some (.inr (.inl (Y))) else (if l3 = l2 then some (.inl ((l3 + (nI 1)), Y)) else bd (fn_73 l1 l3 Y) fun v11 Y9 => (if v11 = (nI 0) then some (.inl ((l3 + (nI 1)), Y9)) else ck (inb l3 8) <| bd (fn_27 (8 * l1 + ix l3) (gI Y9.1 10 (Y9.2 (l1 + 3)) (ix l3)) Y9) fun _ Y13 => some (.inl ((l3 + (nI 1)), Y13)))))
def fn_25_L75_d1 (l3 : Int32) (l4 : Int32) (Y : Sm) : Option ((Int32 × Sm) ⊕ ((Int32 × Sm) ⊕ (Unit × Sm))) :=
  (if (gI Y.1 39 0 0) ≤ l4 then some (.inr (.inl ((l3 + (nI 1)), Y))) else bd (fn_28 l3 l4 Y) fun v23 Y21 => (if v23 = (nI 0) then some (.inl ((l4 + (nI 1)), Y21)) else ck (inb l3 5) <| wr (sI Y21 41 0 (ix l3) ((gI Y21.1 41 0 (ix l3)) + (nI 1))) fun Y25 => some (.inl ((l4 + (nI 1)), Y25))))
def fn_25_L64 (l3 : Int32) (Y : Sm) : Option ((Int32 × Sm) ⊕ (Unit × Sm)) :=
  (if (gI Y.1 39 0 0) ≤ l3 then some (.inr ((), Y)) else lp (fun s => fn_25_L75_d1 l3 s.1 s.2) FU ((nI 0), Y))
def fn_25_J62 (Y : Sm) : Option (Unit × Sm) :=
  lp (fun s => fn_25_L64 s.1 s.2) FU ((nI 0), Y)
def fn_25 (i1 : Nat) (a2 : Int32) (Y : Sm) : Option (Unit × Sm) :=
  bd (fn_26 (gI Y.1 5 (Y.2 (i1 + 3)) 0) Y) fun _ Y1 => exd (lp (fun s => fn_25_L13 i1 a2 s.1 s.2) FU ((nI 0), Y1)) fun s9 => fn_25_J62 s9
/-- BallotBus.points -/
def fn_119 (a1 : Int32) (Y : Sm) : Option ((Int32 ⊕ Nat) × Sm) :=
  bx (fn_155 a1 Y) (fun x6 Y1 => some (.inr x6, Y1)) fun _ Y1 => bd (fn_25 0 (-1 : Int32) Y1) fun _ Y3 => ck (inb a1 5) <| some (.inl (gI Y3.1 40 0 (ix a1)), Y3)
/-- BallotBus.firsts -/
def fn_120 (a1 : Int32) (a2 : Int32) (Y : Sm) : Option ((Int32 ⊕ Nat) × Sm) :=
  bx (fn_155 a1 Y) (fun x12 Y1 => some (.inr x12, Y1)) fun _ Y1 => bx (fn_155 a2 Y1) (fun x9 Y3 => some (.inr x9, Y3)) fun _ Y3 => bd (fn_25 0 (-1 : Int32) Y3) fun _ Y5 => ck (inb a1 5) <| ck (inb a2 5) <| some (.inl (gI Y5.1 43 (ix a1) (ix a2)), Y5)
/-- BallotBus.beats -/
def fn_121 (a1 : Int32) (a2 : Int32) (Y : Sm) : Option ((Int32 ⊕ Nat) × Sm) :=
  bx (fn_155 a1 Y) (fun x14 Y1 => some (.inr x14, Y1)) fun _ Y1 => bx (fn_155 a2 Y1) (fun x11 Y3 => some (.inr x11, Y3)) fun _ Y3 => bd (fn_25 0 (-1 : Int32) Y3) fun _ Y5 => bd (fn_28 a1 a2 Y5) fun v9 Y7 => ck (bz v9) <| some (.inl v9, Y7)
/-- BallotBus.wins -/
def fn_122 (a1 : Int32) (Y : Sm) : Option ((Int32 ⊕ Nat) × Sm) :=
  bx (fn_155 a1 Y) (fun x6 Y1 => some (.inr x6, Y1)) fun _ Y1 => bd (fn_25 0 (-1 : Int32) Y1) fun _ Y3 => ck (inb a1 5) <| some (.inl (gI Y3.1 41 0 (ix a1)), Y3)
/-- BallotBus.champion -/
def fn_123_L26 (l1 : Int32) (Y : Sm) : Option ((Int32 × Sm) ⊕ (Int32 × Sm)) :=
  (if (gI Y.1 5 (Y.2 0) 0) ≤ l1 then some (.inr ((-1 : Int32), Y)) else ck (inb l1 5) <| (if (gI Y.1 41 0 (ix l1)) = ((gI Y.1 5 (Y.2 0) 0) - (nI 1)) then some (.inr (l1, Y)) else some (.inl ((l1 + (nI 1)), Y))))
def fn_123 (Y : Sm) : Option (Int32 × Sm) :=
  bd (fn_25 0 (-1 : Int32) Y) fun _ Y1 => (if (gI Y1.1 39 0 1) = (nI 0) then some ((-1 : Int32), Y1) else lp (fun s => fn_123_L26 s.1 s.2) FU ((nI 0), Y1))
/-- BallotBus.checkTally -/
def fn_156 (a1 : Int32) (Y : Sm) : Option ((Unit ⊕ Nat) × Sm) :=
  (if a1 < (nI 0) then some (.inr 1, Y) else (if a1 ≤ (nI 2) then some (.inl (), Y) else some (.inr 1, Y)))
/-- BallotBus$Rows.copy -/
def fn_44_22_46 (i0 : Nat) (Y : Sm) : Option (Unit × Sm) :=
  wr (sC Y 22 i0 0 46 0 0 5) fun Y1 => some ((), Y1)
/-- BallotBus$Poll.hasMoreFirsts -/
def fn_32_L2 (l1 : Int32) (l2 : Int32) (l3 : Int32) (Y : Sm) : Option ((Int32 × Sm) ⊕ ((Int32 × Sm) ⊕ (Int32 × Sm))) :=
  (if (gI Y.1 39 0 0) ≤ l3 then some (.inr (.inr ((nI 0), Y))) else ck (inb l1 5) <| ck (inb l3 5) <| ck (inb l2 5) <| (if (gI Y.1 43 (ix l1) (ix l3)) = (gI Y.1 43 (ix l2) (ix l3)) then some (.inl ((l3 + (nI 1)), Y)) else some (.inr (.inl (l3, Y)))))
def fn_32_J29 (l1 : Int32) (l2 : Int32) (l3 : Int32) (Y : Sm) : Option (Int32 × Sm) :=
  ck (inb l1 5) <| ck (inb l3 5) <| ck (inb l2 5) <| (if (gI Y.1 43 (ix l1) (ix l3)) ≤ (gI Y.1 43 (ix l2) (ix l3)) then some ((nI 0), Y) else some ((nI 1), Y))
def fn_32 (a1 : Int32) (a2 : Int32) (Y : Sm) : Option (Int32 × Sm) :=
  exd (lp (fun s => fn_32_L2 a1 a2 s.1 s.2) FU ((nI 0), Y)) fun s9 => fn_32_J29 a1 a2 s9.1 s9.2
/-- BallotBus$Poll.isAbove -/
def fn_31_J53 (l1 : Int32) (l2 : Int32) (Y : Sm) : Option (Int32 × Sm) :=
  ck (inb l1 5) <| ck (inb l2 5) <| (if (gI Y.1 40 0 (ix l1)) ≤ (gI Y.1 40 0 (ix l2)) then some ((nI 0), Y) else some ((nI 1), Y))
def fn_31 (a1 : Int32) (a2 : Int32) (a3 : Int32) (Y : Sm) : Option (Int32 × Sm) :=
  (if a3 = (nI 1) then bd (fn_32 a1 a2 Y) fun v7 Y5 => ck (bz v7) <| some (v7, Y5) else (if a3 = (nI 2) then ck (inb a1 5) <| ck (inb a2 5) <| (if (gI Y.1 41 0 (ix a1)) = (gI Y.1 41 0 (ix a2)) then fn_31_J53 a1 a2 Y else (if (gI Y.1 41 0 (ix a1)) ≤ (gI Y.1 41 0 (ix a2)) then some ((nI 0), Y) else some ((nI 1), Y))) else fn_31_J53 a1 a2 Y))
/-- BallotBus$Poll.rank -/
def fn_30_39_46_L21_d1 (l1 : Int32) (l3 : Int32) (l4 : Int32) (Y : Sm) : Option ((Int32 × Sm) ⊕ ((Int32 × Sm) ⊕ (Unit × Sm))) :=
  (if l4 ≤ (nI 0) then ck (inb l4 5) <| wr (sI Y 46 0 (ix l4) l3) fun Y8 => some (.inr (.inl ((l3 + (nI 1)), Y8))) else ck (inb (l4 - (nI 1)) 5) <| bd (fn_31 l3 (gI Y.1 46 0 (ix (l4 - (nI 1)))) l1 Y) fun v12 Y10 => (if v12 = (nI 0) then ck (inb l4 5) <| wr (sI Y10 46 0 (ix l4) l3) fun Y14 => some (.inr (.inl ((l3 + (nI 1)), Y14))) else ck (inb l4 5) <| wr (sI Y10 46 0 (ix l4) (gI Y10.1 46 0 (ix (l4 - (nI 1))))) fun Y16 => some (.inl ((l4 + (-1 : Int32)), Y16))))
def fn_30_39_46_L10 (l1 : Int32) (l3 : Int32) (Y : Sm) : Option ((Int32 × Sm) ⊕ (Unit × Sm)) :=
  (if (gI Y.1 39 0 0) ≤ l3 then some (.inr ((), Y)) else lp (fun s => fn_30_39_46_L21_d1 l1 l3 s.1 s.2) FU (l3, Y))
def fn_30_39_46 (a1 : Int32) (Y : Sm) : Option (Unit × Sm) :=
  (if (gI Y.1 39 0 1) = (nI 0) then some ((), Y) else lp (fun s => fn_30_39_46_L10 a1 s.1 s.2) FU ((nI 0), Y))
/-- BallotBus.voteNow -/
def fn_159_0_46 (a1 : Int32) (a2 : Int32) (Y : Sm) : Option (Unit × Sm) :=
  bd (fn_25 0 a2 Y) fun _ Y1 => bd (fn_44_22_46 0 Y1) fun _ Y3 => bd (fn_30_39_46 a1 Y3) fun _ Y5 => some ((), Y5)
/-- BallotBus.voted -/
def fn_124 (a1 : Int32) (a2 : Int32) (Y : Sm) : Option ((Int32 ⊕ Nat) × Sm) :=
  bx (fn_155 a2 Y) (fun x11 Y1 => some (.inr x11, Y1)) fun _ Y1 => bx (fn_156 a1 Y1) (fun x8 Y3 => some (.inr x8, Y3)) fun _ Y3 => bd (fn_159_0_46 a1 (-1 : Int32) Y3) fun _ Y5 => ck (inb a2 5) <| some (.inl (gI Y5.1 46 0 (ix a2)), Y5)
/-- BallotBus$Rows.copy -/
def fn_44_22_47 (i0 : Nat) (Y : Sm) : Option (Unit × Sm) :=
  wr (sC Y 22 i0 0 47 0 0 5) fun Y1 => some ((), Y1)
/-- BallotBus$Poll.rank -/
def fn_30_39_47_L21_d1 (l1 : Int32) (l3 : Int32) (l4 : Int32) (Y : Sm) : Option ((Int32 × Sm) ⊕ ((Int32 × Sm) ⊕ (Unit × Sm))) :=
  (if l4 ≤ (nI 0) then ck (inb l4 5) <| wr (sI Y 47 0 (ix l4) l3) fun Y8 => some (.inr (.inl ((l3 + (nI 1)), Y8))) else ck (inb (l4 - (nI 1)) 5) <| bd (fn_31 l3 (gI Y.1 47 0 (ix (l4 - (nI 1)))) l1 Y) fun v12 Y10 => (if v12 = (nI 0) then ck (inb l4 5) <| wr (sI Y10 47 0 (ix l4) l3) fun Y14 => some (.inr (.inl ((l3 + (nI 1)), Y14))) else ck (inb l4 5) <| wr (sI Y10 47 0 (ix l4) (gI Y10.1 47 0 (ix (l4 - (nI 1))))) fun Y16 => some (.inl ((l4 + (-1 : Int32)), Y16))))
def fn_30_39_47_L10 (l1 : Int32) (l3 : Int32) (Y : Sm) : Option ((Int32 × Sm) ⊕ (Unit × Sm)) :=
  (if (gI Y.1 39 0 0) ≤ l3 then some (.inr ((), Y)) else lp (fun s => fn_30_39_47_L21_d1 l1 l3 s.1 s.2) FU (l3, Y))
def fn_30_39_47 (a1 : Int32) (Y : Sm) : Option (Unit × Sm) :=
  (if (gI Y.1 39 0 1) = (nI 0) then some ((), Y) else lp (fun s => fn_30_39_47_L10 a1 s.1 s.2) FU ((nI 0), Y))
/-- BallotBus.voteNow -/
def fn_159_0_47 (a1 : Int32) (a2 : Int32) (Y : Sm) : Option (Unit × Sm) :=
  bd (fn_25 0 a2 Y) fun _ Y1 => bd (fn_44_22_47 0 Y1) fun _ Y3 => bd (fn_30_39_47 a1 Y3) fun _ Y5 => some ((), Y5)
/-- BallotBus$Rows.placeOf -/
def fn_45_47_L2 (l1 : Int32) (l2 : Int32) (l3 : Int32) (Y : Sm) : Option ((Int32 × Sm) ⊕ (Int32 × Sm)) :=
  (if l1 ≤ l3 then some (.inr ((-1 : Int32), Y)) else (if (nI 5) ≤ l3 then some (.inr ((-1 : Int32), Y)) else ck (inb l3 5) <| (if (gI Y.1 47 0 (ix l3)) = l2 then some (.inr (l3, Y)) else some (.inl ((l3 + (nI 1)), Y)))))
def fn_45_47 (a1 : Int32) (a2 : Int32) (Y : Sm) : Option (Int32 × Sm) :=
  lp (fun s => fn_45_47_L2 a1 a2 s.1 s.2) FU ((nI 0), Y)
/-- BallotBus$Rows.inversions -/
def fn_46_46_47_L21_d1 (l2 : Int32) (l4 : Int32) (l3 : Int32) (l5 : Int32) (Y : Sm) : Option ((Int32 × Int32 × Sm) ⊕ ((Int32 × Int32 × Sm) ⊕ (Int32 × Sm))) :=
  (if l4 ≤ l5 then some (.inr (.inl (l3, (l4 + (nI 1)), Y))) else ck (inb l5 5) <| bd (fn_45_47 l2 (gI Y.1 46 0 (ix l5)) Y) fun v10 Y8 => ck (inb l4 5) <| bd (fn_45_47 l2 (gI Y8.1 46 0 (ix l4)) Y8) fun v14 Y12 => (if v10 ≤ v14 then some (.inl (l3, (l5 + (nI 1)), Y12)) else some (.inl ((l3 + (nI 1)), (l5 + (nI 1)), Y12))))
def fn_46_46_47_L5 (l2 : Int32) (l3 : Int32) (l4 : Int32) (Y : Sm) : Option ((Int32 × Int32 × Sm) ⊕ (Int32 × Sm)) :=
  (if l2 ≤ l4 then some (.inr (l3, Y)) else (if (nI 5) ≤ l4 then some (.inr (l3, Y)) else lp (fun s => fn_46_46_47_L21_d1 l2 l4 s.1 s.2.1 s.2.2) FU (l3, (nI 0), Y)))
def fn_46_46_47 (a2 : Int32) (Y : Sm) : Option (Int32 × Sm) :=
  lp (fun s => fn_46_46_47_L5 a2 s.1 s.2.1 s.2.2) FU ((nI 0), (nI 0), Y)
/-- BallotBus.isDecisive -/
def fn_125 (a1 : Int32) (Y : Sm) : Option ((Int32 ⊕ Nat) × Sm) :=
  bx (fn_154 a1 Y) (fun x13 Y1 => some (.inr x13, Y1)) fun _ Y1 => bd (fn_73 0 a1 Y1) fun v5 Y3 => (if v5 = (nI 0) then some (.inl (nI 0), Y3) else bd (fn_159_0_46 (gI Y3.1 21 0 2) (-1 : Int32) Y3) fun _ Y6 => bd (fn_159_0_47 (gI Y6.1 21 0 2) a1 Y6) fun _ Y8 => bd (fn_46_46_47 (gI Y8.1 5 (Y8.2 0) 0) Y8) fun v12 Y10 => (if v12 ≤ (nI 0) then some (.inl (nI 0), Y10) else some (.inl (nI 1), Y10)))
/-- BallotBus.votes -/
def fn_126 (Y : Sm) : Option (Int32 × Sm) :=
  bd (fn_25 0 (-1 : Int32) Y) fun _ Y1 => some ((gI Y1.1 39 0 1), Y1)
/-- BallotBus.differences -/
def fn_127 (a1 : Int32) (a2 : Int32) (Y : Sm) : Option ((Int32 ⊕ Nat) × Sm) :=
  bx (fn_156 a1 Y) (fun x15 Y1 => some (.inr x15, Y1)) fun _ Y1 => bx (fn_156 a2 Y1) (fun x12 Y3 => some (.inr x12, Y3)) fun _ Y3 => bd (fn_159_0_46 a1 (-1 : Int32) Y3) fun _ Y5 => bd (fn_159_0_47 a2 (-1 : Int32) Y5) fun _ Y7 => bd (fn_46_46_47 (gI Y7.1 5 (Y7.2 0) 0) Y7) fun v11 Y9 => some (.inl v11, Y9)
/-- BallotBus$Rows.inversions -/
def fn_46_27_22_L21_d1 (l0 : Nat) (l1 : Nat) (l2 : Int32) (l4 : Int32) (l3 : Int32) (l5 : Int32) (Y : Sm) : Option ((Int32 × Int32 × Sm) ⊕ ((Int32 × Int32 × Sm) ⊕ (Int32 × Sm))) :=
  (if l4 ≤ l5 then some (.inr (.inl (l3, (l4 + (nI 1)), Y))) else ck (inb l5 5) <| bd (fn_45_22 l1 l2 (gI Y.1 27 l0 (ix l5)) Y) fun v10 Y8 => ck (inb l4 5) <| bd (fn_45_22 l1 l2 (gI Y8.1 27 l0 (ix l4)) Y8) fun v14 Y12 => (if v10 ≤ v14 then some (.inl (l3, (l5 + (nI 1)), Y12)) else some (.inl ((l3 + (nI 1)), (l5 + (nI 1)), Y12))))
def fn_46_27_22_L5 (l0 : Nat) (l1 : Nat) (l2 : Int32) (l3 : Int32) (l4 : Int32) (Y : Sm) : Option ((Int32 × Int32 × Sm) ⊕ (Int32 × Sm)) :=
  (if l2 ≤ l4 then some (.inr (l3, Y)) else (if (nI 5) ≤ l4 then some (.inr (l3, Y)) else lp (fun s => fn_46_27_22_L21_d1 l0 l1 l2 l4 s.1 s.2.1 s.2.2) FU (l3, (nI 0), Y)))
def fn_46_27_22 (i0 : Nat) (i1 : Nat) (a2 : Int32) (Y : Sm) : Option (Int32 × Sm) :=
  lp (fun s => fn_46_27_22_L5 i0 i1 a2 s.1 s.2.1 s.2.2) FU ((nI 0), (nI 0), Y)
/-- BallotBus.distance -/
def fn_128 (a1 : Int32) (Y : Sm) : Option ((Int32 ⊕ Nat) × Sm) :=
  bx (fn_154 a1 Y) (fun x7 Y1 => some (.inr x7, Y1)) fun _ Y1 => ck (inb a1 8) <| bd (fn_46_27_22 (8 * 0 + ix a1) 0 (gI Y1.1 5 (Y1.2 0) 0) Y1) fun v6 Y4 => some (.inl v6, Y4)
/-- BallotBus$Rows.number -/
def fn_43_46_L2 (l1 : Int32) (Y : Sm) : Option ((Int32 × Sm) ⊕ (Unit × Sm)) :=
  (if (nI 5) ≤ l1 then some (.inr ((), Y)) else ck (inb l1 5) <| wr (sI Y 46 0 (ix l1) l1) fun Y5 => some (.inl ((l1 + (nI 1)), Y5)))
def fn_43_46 (Y : Sm) : Option (Unit × Sm) :=
  lp (fun s => fn_43_46_L2 s.1 s.2) FU ((nI 0), Y)
/-- BallotBus$Poll.disagreement -/
def fn_29_L17_d1 (l3 : Int32) (l2 : Int32) (l4 : Int32) (Y : Sm) : Option ((Int32 × Int32 × Sm) ⊕ ((Int32 × Int32 × Sm) ⊕ (Int32 × Sm))) :=
  (if (gI Y.1 39 0 0) ≤ l4 then some (.inr (.inl (l2, (l3 + (nI 1)), Y))) else ck (inb l4 5) <| ck (inb (gI Y.1 46 0 (ix l4)) 5) <| ck (inb l3 5) <| ck (inb (gI Y.1 46 0 (ix l3)) 5) <| some (.inl ((l2 + (gI Y.1 45 (ix (gI Y.1 46 0 (ix l4))) (ix (gI Y.1 46 0 (ix l3))))), (l4 + (nI 1)), Y)))
def fn_29_L4 (l2 : Int32) (l3 : Int32) (Y : Sm) : Option ((Int32 × Int32 × Sm) ⊕ (Int32 × Sm)) :=
  (if (gI Y.1 39 0 0) ≤ l3 then some (.inr (l2, Y)) else lp (fun s => fn_29_L17_d1 l3 s.1 s.2.1 s.2.2) FU (l2, (l3 + (nI 1)), Y))
def fn_29 (Y : Sm) : Option (Int32 × Sm) :=
  lp (fun s => fn_29_L4 s.1 s.2.1 s.2.2) FU ((nI 0), (nI 0), Y)
/-- BallotBus$Rows.copy -/
def fn_44_46_47 (Y : Sm) : Option (Unit × Sm) :=
  wr (sC Y 46 0 0 47 0 0 5) fun Y1 => some ((), Y1)
/-- BallotBus$Rows.swap -/
def fn_48 (a1 : Int32) (a2 : Int32) (Y : Sm) : Option (Unit × Sm) :=
  ck (inb a1 5) <| ck (inb a2 5) <| wr (sI Y 46 0 (ix a1) (gI Y.1 46 0 (ix a2))) fun Y3 => wr (sI Y3 46 0 (ix a2) (gI Y.1 46 0 (ix a1))) fun Y4 => some ((), Y4)
/-- BallotBus$Rows.advance -/
def fn_47_L11 (l2 : Int32) (l3 : Int32) (Y : Sm) : Option ((Int32 × Sm) ⊕ ((Int32 × Sm) ⊕ (Int32 × Sm))) :=
  (if l3 < (nI 0) then some (.inr (.inl (l3, Y))) else ck (inb l3 5) <| ck (inb (l3 + (nI 1)) 5) <| (if (gI Y.1 46 0 (ix l3)) ≤ (gI Y.1 46 0 (ix (l3 + (nI 1)))) then some (.inr (.inl (l3, Y))) else some (.inl ((l3 + (-1 : Int32)), Y))))
def fn_47_L43 (l2 : Int32) (l3 : Int32) (l4 : Int32) (Y : Sm) : Option ((Int32 × Sm) ⊕ ((Int32 × Sm) ⊕ (Int32 × Sm))) :=
  (if l4 ≤ l3 then some (.inr (.inl (l4, Y))) else ck (inb l4 5) <| ck (inb l3 5) <| (if (gI Y.1 46 0 (ix l3)) ≤ (gI Y.1 46 0 (ix l4)) then some (.inr (.inl (l4, Y))) else some (.inl ((l4 + (-1 : Int32)), Y))))
def fn_47_L82 (l5 : Int32) (l6 : Int32) (Y : Sm) : Option ((Int32 × Int32 × Sm) ⊕ (Int32 × Sm)) :=
  (if l6 ≤ l5 then some (.inr ((nI 1), Y)) else bd (fn_48 l5 l6 Y) fun _ Y22 => some (.inl ((l5 + (nI 1)), (l6 + (-1 : Int32)), Y22)))
def fn_47_J65 (l2 : Int32) (l3 : Int32) (l4 : Int32) (Y : Sm) : Option (Int32 × Sm) :=
  bd (fn_48 l3 l4 Y) fun _ Y17 => lp (fun s => fn_47_L82 s.1 s.2.1 s.2.2) FU ((l3 + (nI 1)), (l2 - (nI 1)), Y17)
def fn_47_J32 (l2 : Int32) (l3 : Int32) (Y : Sm) : Option (Int32 × Sm) :=
  (if (nI 0) ≤ l3 then exd (lp (fun s => fn_47_L43 l2 l3 s.1 s.2) FU ((l2 - (nI 1)), Y)) fun s9 => fn_47_J65 l2 l3 s9.1 s9.2 else some ((nI 0), Y))
def fn_47 (a1 : Int32) (Y : Sm) : Option (Int32 × Sm) :=
  exd (lp (fun s => fn_47_L11 (if (nI 5) < a1 then (nI 5) else a1) s.1 s.2) FU (((if (nI 5) < a1 then (nI 5) else a1) - (nI 2)), Y)) fun s9 => fn_47_J32 (if (nI 5) < a1 then (nI 5) else a1) s9.1 s9.2
/-- BallotBus.middle -/
def fn_129_J66_1_d1 (l1 : Int32) (l4 : Int32) (l5 : Int32) (Y : Sm) : Option ((Int32 × Int32 × Int32 × Sm) ⊕ ((Int32 ⊕ Nat) × Sm)) :=
  bd (fn_44_46_47 Y) fun _ Y15 => bd (fn_47 (gI Y15.1 5 (Y15.2 0) 0) Y15) fun v19 Y17 => some (.inl (l5, v19, (l4 + (nI 1)), Y17))
def fn_129_L31_1 (l1 : Int32) (l2 : Int32) (l3 : Int32) (l4 : Int32) (Y : Sm) : Option ((Int32 × Int32 × Int32 × Sm) ⊕ ((Int32 ⊕ Nat) × Sm)) :=
  (if l3 = (nI 0) then ck (inb l1 5) <| some (.inr (.inl (gI Y.1 47 0 (ix l1)), Y)) else (if (nI 120) ≤ l4 then ck (inb l1 5) <| some (.inr (.inl (gI Y.1 47 0 (ix l1)), Y)) else bd (fn_29 Y) fun v14 Y12 => (if l2 = (-1 : Int32) then fn_129_J66_1_d1 l1 l4 v14 Y12 else (if l2 ≤ v14 then bd (fn_47 (gI Y12.1 5 (Y12.2 0) 0) Y12) fun v22 Y20 => some (.inl (l2, v22, (l4 + (nI 1)), Y20)) else fn_129_J66_1_d1 l1 l4 v14 Y12))))
def fn_129 (a1 : Int32) (Y : Sm) : Option ((Int32 ⊕ Nat) × Sm) :=
  bx (fn_155 a1 Y) (fun x23 Y1 => some (.inr x23, Y1)) fun _ Y1 => bd (fn_25 0 (-1 : Int32) Y1) fun _ Y3 => bd (fn_43_46 Y3) fun _ Y5 => lp (fun s => fn_129_L31_1 a1 s.1 s.2.1 s.2.2.1 s.2.2.2) FU ((-1 : Int32), (nI 1), (nI 0), Y5)
/-- BallotBus.meanWait -/
def fn_130 (a1 : Int32) (Y : Sm) : Option ((UInt64 ⊕ Nat) × Sm) :=
  bx (fn_155 a1 Y) (fun x5 Y1 => some (.inr x5, Y1)) fun _ Y1 => ck (inb a1 5) <| (if (gI Y1.1 24 0 (ix a1)) = (nI 0) then some (.inl FP.dconst0, Y1) else ck (nn64 (FP.ddiv (FP.l2d (gJ Y1.1 25 0 (ix a1))) (FP.i2d (gI Y1.1 24 0 (ix a1))))) <| some (.inl (FP.ddiv (FP.l2d (gJ Y1.1 25 0 (ix a1))) (FP.i2d (gI Y1.1 24 0 (ix a1)))), Y1))
/-- BallotBus.share -/
def fn_131_L9_1 (l1 : Int32) (l2 : Int32) (l3 : Int32) (Y : Sm) : Option ((Int32 × Int32 × Sm) ⊕ ((Int32 × Sm) ⊕ ((UInt32 ⊕ Nat) × Sm))) :=
  (if (gI Y.1 5 (Y.2 0) 3) ≤ l3 then some (.inr (.inl (l2, Y))) else ck (inb l3 8) <| some (.inl ((l2 + (gI Y.1 33 0 (ix l3))), (l3 + (nI 1)), Y)))
def fn_131_J41_1 (l1 : Int32) (l2 : Int32) (Y : Sm) : Option ((UInt32 ⊕ Nat) × Sm) :=
  (if l2 = (nI 0) then some (.inl FP.fconst0, Y) else ck (inb l1 8) <| ck (nn32 (FP.fdiv (FP.i2f (gI Y.1 33 0 (ix l1))) (FP.i2f l2))) <| some (.inl (FP.fdiv (FP.i2f (gI Y.1 33 0 (ix l1))) (FP.i2f l2)), Y))
def fn_131 (a1 : Int32) (Y : Sm) : Option ((UInt32 ⊕ Nat) × Sm) :=
  bx (fn_154 a1 Y) (fun x15 Y1 => some (.inr x15, Y1)) fun _ Y1 => exd (lp (fun s => fn_131_L9_1 a1 s.1 s.2.1 s.2.2) FU ((nI 0), (nI 0), Y1)) fun s9 => fn_131_J41_1 a1 s9.1 s9.2
/-- BallotBus.debts -/
def fn_132_L4 (l1 : Int32) (l2 : Int32) (Y : Sm) : Option ((Int32 × Int32 × Sm) ⊕ (Int32 × Sm)) :=
  (if (gI Y.1 5 (Y.2 0) 3) ≤ l2 then some (.inr (l1, Y)) else ck (inb l2 8) <| some (.inl ((l1 + (gI Y.1 30 0 (ix l2))), (l2 + (nI 1)), Y)))
def fn_132 (Y : Sm) : Option (Int32 × Sm) :=
  lp (fun s => fn_132_L4 s.1 s.2.1 s.2.2) FU ((nI 0), (nI 0), Y)
/-- BallotBus$Accounts.balance -/
def fn_3 (i0 : Nat) (a1 : Int32) (Y : Sm) : Option (Int32 × Sm) :=
  ck (inb a1 8) <| some (((gI Y.1 29 i0 (ix a1)) - (gI Y.1 30 i0 (ix a1))), Y)
/-- BallotBus.richest -/
def fn_133_L4 (l1 : Int32) (l2 : Int32) (Y : Sm) : Option ((Int32 × Int32 × Sm) ⊕ (Int32 × Sm)) :=
  (if (gI Y.1 5 (Y.2 0) 3) ≤ l2 then some (.inr (l1, Y)) else bd (fn_3 0 l2 Y) fun v6 Y4 => bd (fn_3 0 l1 Y4) fun v9 Y7 => (if v6 ≤ v9 then some (.inl (l1, (l2 + (nI 1)), Y7)) else some (.inl (l2, (l2 + (nI 1)), Y7))))
def fn_133 (Y : Sm) : Option (Int32 × Sm) :=
  lp (fun s => fn_133_L4 s.1 s.2.1 s.2.2) FU ((nI 0), (nI 1), Y)
/-- BallotBus.checkTicks -/
def fn_157 (a1 : Int32) (a2 : Int32) (Y : Sm) : Option ((Unit ⊕ Nat) × Sm) :=
  (if a1 < (nI 1) then some (.inr 1, Y) else (if a1 ≤ a2 then some (.inl (), Y) else some (.inr 1, Y)))
/-- BallotBus$Rows.copy -/
def fn_44_22_22 (i0 : Nat) (i1 : Nat) (Y : Sm) : Option (Unit × Sm) :=
  wr (sC Y 22 i0 0 22 i1 0 5) fun Y1 => some ((), Y1)
/-- BallotBus$Rows.copy -/
def fn_44_23_23 (i0 : Nat) (i1 : Nat) (Y : Sm) : Option (Unit × Sm) :=
  wr (sC Y 23 i0 0 23 i1 0 5) fun Y1 => some ((), Y1)
/-- BallotBus$Rows.copy -/
def fn_44_24_24 (i0 : Nat) (i1 : Nat) (Y : Sm) : Option (Unit × Sm) :=
  wr (sC Y 24 i0 0 24 i1 0 5) fun Y1 => some ((), Y1)
/-- BallotBus$Rows.copy -/
def fn_44_27_27 (i0 : Nat) (i1 : Nat) (Y : Sm) : Option (Unit × Sm) :=
  wr (sC Y 27 i0 0 27 i1 0 5) fun Y1 => some ((), Y1)
/-- BallotBus$Accounts.copyFrom -/
def fn_2 (i0 : Nat) (i1 : Nat) (Y : Sm) : Option (Unit × Sm) :=
  wr (sC Y 29 i1 0 29 i0 0 8) fun Y1 => wr (sC Y1 30 i1 0 30 i0 0 8) fun Y2 => wr (sC Y2 31 i1 0 31 i0 0 8) fun Y3 => wr (sC Y3 32 i1 0 32 i0 0 8) fun Y4 => wr (sC Y4 33 i1 0 33 i0 0 8) fun Y5 => wr (sC Y5 34 i1 0 34 i0 0 8) fun Y6 => some ((), Y6)
/-- BallotBus$AnswerLog.copyFrom -/
def fn_10 (i0 : Nat) (i1 : Nat) (Y : Sm) : Option (Unit × Sm) :=
  wr (sI Y 35 i0 1 (gI Y.1 35 i1 1)) fun Y1 => wr (sI Y1 35 i0 2 (gI Y1.1 35 i1 2)) fun Y2 => wr (sC Y2 36 i1 0 36 i0 0 360) fun Y3 => some ((), Y3)
/-- BallotBus$State.copyFrom -/
def fn_72_L121 (l0 : Nat) (l1 : Nat) (l2 : Int32) (Y : Sm) : Option ((Int32 × Sm) ⊕ ((Sm) ⊕ (Unit × Sm))) :=
  (if (nI 8) ≤ l2 then some (.inr (.inl (Y))) else ck (inb l2 8) <| bd (fn_44_27_27 (8 * l1 + ix l2) (8 * l0 + ix l2) Y) fun _ Y25 => some (.inl ((l2 + (nI 1)), Y25)))
def fn_72_J148 (l0 : Nat) (l1 : Nat) (Y : Sm) : Option (Unit × Sm) :=
  bd (fn_2 l0 l1 Y) fun _ Y27 => bd (fn_35 (l0 + 3) (l1 + 3) Y27) fun _ Y29 => bd (fn_10 l0 l1 Y29) fun _ Y31 => some ((), Y31)
def fn_72 (i0 : Nat) (i1 : Nat) (Y : Sm) : Option (Unit × Sm) :=
  wr (sG Y (i0 + 3) (Y.2 (i1 + 3))) fun Y1 => wr (sI Y1 21 i0 1 (gI Y1.1 21 i1 1)) fun Y2 => wr (sI Y2 21 i0 2 (gI Y2.1 21 i1 2)) fun Y3 => wr (sI Y3 21 i0 3 (gI Y3.1 21 i1 3)) fun Y4 => ck (bz (gI Y4.1 21 i1 4)) <| wr (sI Y4 21 i0 4 (gI Y4.1 21 i1 4)) fun Y6 => wr (sI Y6 21 i0 5 (gI Y6.1 21 i1 5)) fun Y7 => wr (sI Y7 21 i0 6 (gI Y7.1 21 i1 6)) fun Y8 => wr (sI Y8 21 i0 7 (gI Y8.1 21 i1 7)) fun Y9 => wr (sI Y9 21 i0 8 (gI Y9.1 21 i1 8)) fun Y10 => bd (fn_44_22_22 i1 i0 Y10) fun _ Y11 => bd (fn_44_23_23 i1 i0 Y11) fun _ Y13 => bd (fn_44_24_24 i1 i0 Y13) fun _ Y15 => wr (sD2 Y15 25 i1 0 25 i0 0 5) fun Y17 => exd (lp (fun s => fn_72_L121 i0 i1 s.1 s.2) FU ((nI 0), Y17)) fun s9 => fn_72_J148 i0 i1 s9
/-- BallotBus$History.push -/
def fn_14_J22 (l1 : Nat) (t0 : Int32) (Y : Sm) : Option (Unit × Sm) :=
  wr (sI Y 37 0 1 t0) fun Y1 => ck (inb (gI Y1.1 37 0 1) 8) <| bd (fn_72 ((ix (gI Y1.1 37 0 1)) + 3) l1 Y1) fun _ Y3 => wr (sI Y3 37 0 2 (if (nI 8) < ((gI Y3.1 37 0 2) + (nI 1)) then (nI 8) else ((gI Y3.1 37 0 2) + (nI 1)))) fun Y5 => some ((), Y5)
def fn_14 (i1 : Nat) (Y : Sm) : Option (Unit × Sm) :=
  (if (nI 8) ≤ ((gI Y.1 37 0 1) + (nI 1)) then fn_14_J22 i1 (nI 0) Y else fn_14_J22 i1 ((gI Y.1 37 0 1) + (nI 1)) Y)
/-- BallotBus$State.isMultipleOf -/
def fn_87 (i0 : Nat) (a1 : Int32) (Y : Sm) : Option (Int32 × Sm) :=
  (if a1 ≤ (nI 0) then some ((nI 0), Y) else ck (nz a1) <| (if ((gI Y.1 21 i0 1) - (gI Y.1 21 i0 1) / a1 * a1) = (nI 0) then some ((nI 1), Y) else some ((nI 0), Y)))
/-- BallotBus$Accounts.book -/
def fn_7 (i0 : Nat) (a1 : Int32) (a2 : Int32) (Y : Sm) : Option (Int32 × Sm) :=
  ck (inb a1 8) <| wr (sI Y 30 i0 (ix a1) ((gI Y.1 30 i0 (ix a1)) - (if (gI Y.1 30 i0 (ix a1)) < a2 then (gI Y.1 30 i0 (ix a1)) else a2))) fun Y2 => wr (sI Y2 29 i0 (ix a1) (if (((gI Y2.1 29 i0 (ix a1)) + a2) - (if (gI Y.1 30 i0 (ix a1)) < a2 then (gI Y.1 30 i0 (ix a1)) else a2)) < (nI 999) then (((gI Y2.1 29 i0 (ix a1)) + a2) - (if (gI Y.1 30 i0 (ix a1)) < a2 then (gI Y.1 30 i0 (ix a1)) else a2)) else (nI 999))) fun Y3 => wr (sI Y3 32 i0 (ix a1) ((gI Y3.1 32 i0 (ix a1)) + (nI 1))) fun Y4 => wr (sI Y4 33 i0 (ix a1) ((gI Y4.1 33 i0 (ix a1)) + a2)) fun Y5 => some ((if (gI Y.1 30 i0 (ix a1)) < a2 then (gI Y.1 30 i0 (ix a1)) else a2), Y5)
/-- BallotBus$AnswerLog.add -/
def fn_11 (i0 : Nat) (i1 : Nat) (a2 : Int32) (a3 : Int32) (a4 : Int32) (Y : Sm) : Option (Unit × Sm) :=
  ck (inb a2 40) <| ck (inb ((gI Y.1 35 i0 1) * (nI 6)) 360) <| wr (sI Y 36 i0 (ix ((gI Y.1 35 i0 1) * (nI 6))) (gI Y.1 19 i1 (ix a2))) fun Y3 => ck (inb (((gI Y.1 35 i0 1) * (nI 6)) + (nI 1)) 360) <| wr (sI Y3 36 i0 (ix (((gI Y.1 35 i0 1) * (nI 6)) + (nI 1))) (gI Y3.1 14 i1 (ix a2))) fun Y5 => ck (inb (((gI Y.1 35 i0 1) * (nI 6)) + (nI 2)) 360) <| wr (sI Y5 36 i0 (ix (((gI Y.1 35 i0 1) * (nI 6)) + (nI 2))) (gI Y5.1 15 i1 (ix a2))) fun Y7 => ck (inb (((gI Y.1 35 i0 1) * (nI 6)) + (nI 3)) 360) <| wr (sI Y7 36 i0 (ix (((gI Y.1 35 i0 1) * (nI 6)) + (nI 3))) (gI Y7.1 18 i1 (ix a2))) fun Y9 => ck (inb (((gI Y.1 35 i0 1) * (nI 6)) + (nI 4)) 360) <| wr (sI Y9 36 i0 (ix (((gI Y.1 35 i0 1) * (nI 6)) + (nI 4))) a3) fun Y11 => ck (inb (((gI Y.1 35 i0 1) * (nI 6)) + (nI 5)) 360) <| wr (sI Y11 36 i0 (ix (((gI Y.1 35 i0 1) * (nI 6)) + (nI 5))) a4) fun Y13 => wr (sI Y13 35 i0 1 (((gI Y13.1 35 i0 1) + (nI 1)) - ((gI Y13.1 35 i0 1) + (nI 1)) / (nI 60) * (nI 60))) fun Y14 => wr (sI Y14 35 i0 2 (if (nI 60) < ((gI Y14.1 35 i0 2) + (nI 1)) then (nI 60) else ((gI Y14.1 35 i0 2) + (nI 1)))) fun Y15 => some ((), Y15)
/-- BallotBus$Requests.removeAt -/
def fn_37 (i0 : Nat) (a1 : Int32) (Y : Sm) : Option (Unit × Sm) :=
  (if a1 < (nI 0) then some ((), Y) else (if a1 < (gI Y.1 12 i0 1) then ck (cpok (a1 + (nI 1)) a1 (((gI Y.1 12 i0 1) - a1) - (nI 1)) 40 40) <| wr (sC Y 14 i0 (ix (a1 + (nI 1))) 14 i0 (ix a1) (ix (((gI Y.1 12 i0 1) - a1) - (nI 1)))) fun Y2 => ck (cpok (a1 + (nI 1)) a1 (((gI Y2.1 12 i0 1) - a1) - (nI 1)) 40 40) <| wr (sC Y2 15 i0 (ix (a1 + (nI 1))) 15 i0 (ix a1) (ix (((gI Y2.1 12 i0 1) - a1) - (nI 1)))) fun Y4 => ck (cpok (a1 + (nI 1)) a1 (((gI Y4.1 12 i0 1) - a1) - (nI 1)) 40 40) <| wr (sC Y4 16 i0 (ix (a1 + (nI 1))) 16 i0 (ix a1) (ix (((gI Y4.1 12 i0 1) - a1) - (nI 1)))) fun Y6 => ck (cpok (a1 + (nI 1)) a1 (((gI Y6.1 12 i0 1) - a1) - (nI 1)) 40 40) <| wr (sC Y6 17 i0 (ix (a1 + (nI 1))) 17 i0 (ix a1) (ix (((gI Y6.1 12 i0 1) - a1) - (nI 1)))) fun Y8 => ck (cpok (a1 + (nI 1)) a1 (((gI Y8.1 12 i0 1) - a1) - (nI 1)) 40 40) <| wr (sC Y8 18 i0 (ix (a1 + (nI 1))) 18 i0 (ix a1) (ix (((gI Y8.1 12 i0 1) - a1) - (nI 1)))) fun Y10 => ck (cpok (a1 + (nI 1)) a1 (((gI Y10.1 12 i0 1) - a1) - (nI 1)) 40 40) <| wr (sC Y10 19 i0 (ix (a1 + (nI 1))) 19 i0 (ix a1) (ix (((gI Y10.1 12 i0 1) - a1) - (nI 1)))) fun Y12 => wr (sI Y12 12 i0 1 ((gI Y12.1 12 i0 1) - (nI 1))) fun Y13 => some ((), Y13) else some ((), Y)))
/-- BallotBus$State.finish -/
def fn_92 (i0 : Nat) (a1 : Int32) (Y : Sm) : Option (Unit × Sm) :=
  ck (inb a1 40) <| bd (fn_7 i0 (gI Y.1 14 (i0 + 3) (ix a1)) (gI Y.1 16 (i0 + 3) (ix a1)) Y) fun v4 Y2 => ck (inb (gI Y.1 15 (i0 + 3) (ix a1)) 5) <| wr (sI Y2 24 i0 (ix (gI Y.1 15 (i0 + 3) (ix a1))) ((gI Y2.1 24 i0 (ix (gI Y.1 15 (i0 + 3) (ix a1)))) + (nI 1))) fun Y6 => wr (sJ Y6 25 i0 (ix (gI Y.1 15 (i0 + 3) (ix a1))) ((gJ Y6.1 25 i0 (ix (gI Y.1 15 (i0 + 3) (ix a1)))) + (((gI Y6.1 21 i0 1) - (gI Y6.1 18 (i0 + 3) (ix a1))).toInt64))) fun Y7 => wr (sI Y7 21 i0 8 ((gI Y7.1 21 i0 8) + (nI 1))) fun Y8 => bd (fn_11 i0 (i0 + 3) a1 (gI Y8.1 21 i0 1) v4 Y8) fun _ Y9 => wr (sI Y9 12 (i0 + 3) 2 (-1 : Int32)) fun Y11 => bd (fn_37 (i0 + 3) a1 Y11) fun _ Y12 => some ((), Y12)
/-- BallotBus$State.work -/
def fn_91 (i0 : Nat) (Y : Sm) : Option (Unit × Sm) :=
  bd (fn_38 (i0 + 3) (gI Y.1 12 (i0 + 3) 2) Y) fun v3 Y1 => (if v3 = (-1 : Int32) then some ((), Y1) else ck (inb v3 40) <| wr (sI Y1 17 (i0 + 3) (ix v3) ((gI Y1.1 17 (i0 + 3) (ix v3)) - (nI 1))) fun Y5 => (if (nI 0) < (gI Y5.1 17 (i0 + 3) (ix v3)) then some ((), Y5) else bd (fn_92 i0 v3 Y5) fun _ Y6 => some ((), Y6)))
/-- BallotBus$State.takeUp -/
def fn_90_J40_d1 (l0 : Nat) (l1 : Int32) (t0 : Int32) (Y : Sm) : Option ((Int32 × Sm) ⊕ ((Int32 × Sm) ⊕ (Unit × Sm))) :=
  (if t0 = (-1 : Int32) then some (.inl ((l1 + (nI 1)), Y)) else some (.inr (.inl (t0, Y))))
def fn_90_L2 (l0 : Nat) (l1 : Int32) (Y : Sm) : Option ((Int32 × Sm) ⊕ ((Int32 × Sm) ⊕ (Unit × Sm))) :=
  (if (gI Y.1 5 (Y.2 (l0 + 3)) 0) ≤ l1 then some (.inr (.inr ((), Y))) else ck (inb l1 5) <| bd (fn_74 l0 (gI Y.1 22 l0 (ix l1)) Y) fun v10 Y8 => (if v10 = (nI 0) then bd (fn_76 l0 (gI Y8.1 22 l0 (ix l1)) Y8) fun v13 Y11 => fn_90_J40_d1 l0 l1 v13 Y11 else fn_90_J40_d1 l0 l1 (-1 : Int32) Y8))
def fn_90_J46 (l0 : Nat) (l2 : Int32) (Y : Sm) : Option (Unit × Sm) :=
  bd (fn_39 (l0 + 3) l2 Y) fun v16 Y14 => wr (sI Y14 12 (l0 + 3) 2 v16) fun Y17 => some ((), Y17)
def fn_90 (i0 : Nat) (Y : Sm) : Option (Unit × Sm) :=
  exd (lp (fun s => fn_90_L2 i0 s.1 s.2) FU ((nI 0), Y)) fun s9 => fn_90_J46 i0 s9.1 s9.2
/-- BallotBus$State.passTurn -/
def fn_89_J38 (l0 : Nat) (Y : Sm) : Option (Unit × Sm) :=
  wr (sI Y 21 l0 4 (nI 0)) fun Y1 => (if (gI Y1.1 5 (Y1.2 (l0 + 3)) 3) ≤ ((gI Y1.1 21 l0 3) + (nI 1)) then wr (sI Y1 21 l0 3 (nI 0)) fun Y2 => some ((), Y2) else wr (sI Y1 21 l0 3 ((gI Y1.1 21 l0 3) + (nI 1))) fun Y3 => some ((), Y3))
def fn_89 (i0 : Nat) (Y : Sm) : Option (Unit × Sm) :=
  (if (gI Y.1 21 i0 4) = (nI 0) then ck (inb (gI Y.1 21 i0 3) 8) <| wr (sI Y 31 i0 (ix (gI Y.1 21 i0 3)) (if ((gI Y.1 31 i0 (ix (gI Y.1 21 i0 3))) + (nI 1)) < (nI 99) then ((gI Y.1 31 i0 (ix (gI Y.1 21 i0 3))) + (nI 1)) else (nI 99))) fun Y5 => fn_89_J38 i0 Y5 else fn_89_J38 i0 Y)
/-- BallotBus$Poll.rank -/
def fn_30_39_22_L21_d1 (l1 : Int32) (l2 : Nat) (l3 : Int32) (l4 : Int32) (Y : Sm) : Option ((Int32 × Sm) ⊕ ((Int32 × Sm) ⊕ (Unit × Sm))) :=
  (if l4 ≤ (nI 0) then ck (inb l4 5) <| wr (sI Y 22 l2 (ix l4) l3) fun Y8 => some (.inr (.inl ((l3 + (nI 1)), Y8))) else ck (inb (l4 - (nI 1)) 5) <| bd (fn_31 l3 (gI Y.1 22 l2 (ix (l4 - (nI 1)))) l1 Y) fun v12 Y10 => (if v12 = (nI 0) then ck (inb l4 5) <| wr (sI Y10 22 l2 (ix l4) l3) fun Y14 => some (.inr (.inl ((l3 + (nI 1)), Y14))) else ck (inb l4 5) <| wr (sI Y10 22 l2 (ix l4) (gI Y10.1 22 l2 (ix (l4 - (nI 1))))) fun Y16 => some (.inl ((l4 + (-1 : Int32)), Y16))))
def fn_30_39_22_L10 (l1 : Int32) (l2 : Nat) (l3 : Int32) (Y : Sm) : Option ((Int32 × Sm) ⊕ (Unit × Sm)) :=
  (if (gI Y.1 39 0 0) ≤ l3 then some (.inr ((), Y)) else lp (fun s => fn_30_39_22_L21_d1 l1 l2 l3 s.1 s.2) FU (l3, Y))
def fn_30_39_22 (a1 : Int32) (i2 : Nat) (Y : Sm) : Option (Unit × Sm) :=
  (if (gI Y.1 39 0 1) = (nI 0) then some ((), Y) else lp (fun s => fn_30_39_22_L10 a1 i2 s.1 s.2) FU ((nI 0), Y))
/-- BallotBus$State.holdVote -/
def fn_88 (i0 : Nat) (Y : Sm) : Option (Unit × Sm) :=
  bd (fn_25 i0 (-1 : Int32) Y) fun _ Y1 => bd (fn_30_39_22 (gI Y1.1 21 i0 2) i0 Y1) fun _ Y3 => wr (sI Y3 21 i0 5 (nI 0)) fun Y5 => wr (sI Y5 21 i0 6 ((gI Y5.1 21 i0 6) + (nI 1))) fun Y6 => some ((), Y6)
/-- BallotBus$State.tick -/
def fn_86_J48 (l0 : Nat) (Y : Sm) : Option (Unit × Sm) :=
  (if (gI Y.1 12 (l0 + 3) 2) = (-1 : Int32) then bd (fn_90 l0 Y) fun _ Y7 => bd (fn_91 l0 Y7) fun _ Y9 => wr (sI Y9 21 l0 1 ((gI Y9.1 21 l0 1) + (nI 1))) fun Y11 => some ((), Y11) else bd (fn_91 l0 Y) fun _ Y4 => wr (sI Y4 21 l0 1 ((gI Y4.1 21 l0 1) + (nI 1))) fun Y6 => some ((), Y6))
def fn_86_J21 (l0 : Nat) (Y : Sm) : Option (Unit × Sm) :=
  (if (gI Y.1 21 l0 1) = (nI 0) then fn_86_J48 l0 Y else bd (fn_87 l0 (gI Y.1 11 (Y.2 (l0 + 3)) 0) Y) fun v14 Y12 => (if v14 = (nI 0) then fn_86_J48 l0 Y12 else bd (fn_89 l0 Y12) fun _ Y15 => fn_86_J48 l0 Y15))
def fn_86 (i0 : Nat) (Y : Sm) : Option (Unit × Sm) :=
  bd (fn_87 i0 (gI Y.1 11 (Y.2 (i0 + 3)) 1) Y) fun v3 Y1 => (if v3 = (nI 0) then fn_86_J21 i0 Y1 else bd (fn_88 i0 Y1) fun _ Y17 => fn_86_J21 i0 Y17)
/-- BallotBus$State.pass -/
def fn_85_L2 (l0 : Nat) (l1 : Int32) (l3 : Int32) (Y : Sm) : Option ((Int32 × Sm) ⊕ (Unit × Sm)) :=
  (if l1 ≤ l3 then some (.inr ((), Y)) else bd (fn_86 l0 Y) fun _ Y4 => some (.inl ((l3 + (nI 1)), Y4)))
def fn_85 (i0 : Nat) (a1 : Int32) (Y : Sm) : Option (Unit × Sm) :=
  lp (fun s => fn_85_L2 i0 a1 s.1 s.2) FU ((nI 0), Y)
/-- BallotBus.run -/
def fn_134 (a1 : Int32) (Y : Sm) : Option ((Int32 ⊕ Nat) × Sm) :=
  bx (fn_157 a1 (nI 500) Y) (fun x7 Y1 => some (.inr x7, Y1)) fun _ Y1 => bd (fn_14 0 Y1) fun _ Y3 => bd (fn_85 0 a1 Y3) fun _ Y5 => some (.inl ((gI Y5.1 21 0 8) - (gI Y3.1 21 0 8)), Y5)
/-- BallotBus$State.take -/
def fn_81 (i0 : Nat) (a1 : Int32) (a2 : Int32) (a3 : Int32) (Y : Sm) : Option (Int32 × Sm) :=
  bd (fn_36 (i0 + 3) (gI Y.1 21 i0 7) a1 a2 a3 (gI Y.1 21 i0 1) Y) fun _ Y1 => wr (sI Y1 21 i0 7 ((gI Y1.1 21 i0 7) + (nI 1))) fun Y3 => some ((gI Y.1 21 i0 7), Y3)
/-- BallotBus.ask -/
def fn_135 (a1 : Int32) (a2 : Int32) (a3 : Int32) (Y : Sm) : Option ((Int32 ⊕ Nat) × Sm) :=
  bx (fn_154 a1 Y) (fun x13 Y1 => some (.inr x13, Y1)) fun _ Y1 => bx (fn_155 a2 Y1) (fun x10 Y3 => some (.inr x10, Y3)) fun _ Y3 => (if a3 < (nI 1) then some (.inr 1, Y3) else (if a3 ≤ (nI 20) then (if (nI 40) ≤ (gI Y3.1 12 3 1) then some (.inr 2, Y3) else (if (gI Y3.1 21 0 7) < (nI 9999) then bd (fn_14 0 Y3) fun _ Y5 => bd (fn_81 0 a1 a2 a3 Y5) fun v9 Y7 => some (.inl v9, Y7) else some (.inr 2, Y3))) else some (.inr 1, Y3)))
/-- BallotBus.cancel -/
def fn_136 (a1 : Int32) (Y : Sm) : Option ((Int32 ⊕ Nat) × Sm) :=
  bx (fn_158 a1 Y) (fun x12 Y1 => some (.inr x12, Y1)) fun v3 Y1 => bd (fn_40 3 v3 Y1) fun v6 Y4 => (if v6 = (nI 0) then some (.inr 2, Y4) else bd (fn_14 0 Y4) fun _ Y7 => ck (inb v3 40) <| bd (fn_37 3 v3 Y7) fun _ Y10 => some (.inl (gI Y7.1 16 3 (ix v3)), Y10))
/-- BallotBus$Rows.decode -/
def fn_50_L15 (l2 : Int32) (l3 : Int32) (l4 : Int32) (l5 : Int32) (Y : Sm) : Option ((Int32 × Int32 × Int32 × Sm) ⊕ ((Int32 × Sm) ⊕ (Int32 × Sm))) :=
  (if l5 < (nI 0) then some (.inr (.inl (l3, Y))) else (if (l3 - l3 / (nI 10) * (nI 10)) < (nI 0) then some (.inr (.inr ((nI 0), Y))) else (if l2 ≤ (l3 - l3 / (nI 10) * (nI 10)) then some (.inr (.inr ((nI 0), Y))) else (if (l4 &&& ((nI 1) <<< ((l3 - l3 / (nI 10) * (nI 10)) &&& 31))) = (nI 0) then ck (inb l5 5) <| wr (sI Y 46 0 (ix l5) (l3 - l3 / (nI 10) * (nI 10))) fun Y8 => some (.inl ((l3 / (nI 10)), (l4 ||| ((nI 1) <<< ((l3 - l3 / (nI 10) * (nI 10)) &&& 31))), (l5 + (-1 : Int32)), Y8)) else some (.inr (.inr ((nI 0), Y)))))))
def fn_50_J75 (l3 : Int32) (Y : Sm) : Option (Int32 × Sm) :=
  (if l3 = (nI 0) then some ((nI 1), Y) else some ((nI 0), Y))
def fn_50 (a0 : Int32) (a2 : Int32) (Y : Sm) : Option (Int32 × Sm) :=
  exd (lp (fun s => fn_50_L15 a2 s.1 s.2.1 s.2.2.1 s.2.2.2) FU (a0, (nI 0), ((if (nI 5) < a2 then (nI 5) else a2) - (nI 1)), Y)) fun s9 => fn_50_J75 s9.1 s9.2
/-- BallotBus$Rows.copy -/
def fn_44_46_27 (i1 : Nat) (Y : Sm) : Option (Unit × Sm) :=
  wr (sC Y 46 0 0 27 i1 0 5) fun Y1 => some ((), Y1)
/-- BallotBus$State.takeBallot -/
def fn_82 (i0 : Nat) (Y : Sm) : Option (Unit × Sm) :=
  ck (inb (gI Y.1 21 i0 3) 8) <| bd (fn_44_46_27 (8 * i0 + ix (gI Y.1 21 i0 3)) Y) fun _ Y2 => wr (sI Y2 21 i0 4 (nI 1)) fun Y4 => ck (inb (gI Y4.1 21 i0 3) 8) <| wr (sI Y4 31 i0 (ix (gI Y4.1 21 i0 3)) (nI 0)) fun Y6 => some ((), Y6)
/-- BallotBus.cast -/
def fn_137 (a1 : Int32) (Y : Sm) : Option ((Int32 ⊕ Nat) × Sm) :=
  bd (fn_50 a1 (gI Y.1 5 (Y.2 0) 0) Y) fun v3 Y1 => (if v3 = (nI 0) then some (.inr 1, Y1) else bd (fn_14 0 Y1) fun _ Y4 => bd (fn_82 0 Y4) fun _ Y6 => some (.inl (gI Y6.1 21 0 3), Y6))
/-- BallotBus$Accounts.debtAfterPaying -/
def fn_4 (i0 : Nat) (a1 : Int32) (a2 : Int32) (Y : Sm) : Option (Int32 × Sm) :=
  ck (inb a1 8) <| some (((gI Y.1 30 i0 (ix a1)) + (if (nI 0) < (a2 - (gI Y.1 29 i0 (ix a1))) then (a2 - (gI Y.1 29 i0 (ix a1))) else (nI 0))), Y)
/-- BallotBus$State.allowsVeto -/
def fn_83 (i0 : Nat) (a1 : Int32) (a2 : Int32) (Y : Sm) : Option (Int32 × Sm) :=
  bd (fn_74 i0 a2 Y) fun v3 Y1 => (if v3 = (nI 0) then bd (fn_4 i0 a1 (gI Y1.1 11 (Y1.2 (i0 + 3)) 2) Y1) fun v6 Y4 => (if (gI Y4.1 11 (Y4.2 (i0 + 3)) 3) < v6 then some ((nI 0), Y4) else some ((nI 1), Y4)) else some ((nI 0), Y1))
/-- BallotBus$Accounts.payVeto -/
def fn_5 (i0 : Nat) (a1 : Int32) (a2 : Int32) (Y : Sm) : Option (Unit × Sm) :=
  bd (fn_4 i0 a1 a2 Y) fun v3 Y1 => ck (inb a1 8) <| wr (sI Y1 30 i0 (ix a1) v3) fun Y5 => wr (sI Y5 29 i0 (ix a1) (if (nI 0) < ((gI Y5.1 29 i0 (ix a1)) - a2) then ((gI Y5.1 29 i0 (ix a1)) - a2) else (nI 0))) fun Y6 => wr (sI Y6 34 i0 (ix a1) ((gI Y6.1 34 i0 (ix a1)) + (nI 1))) fun Y7 => some ((), Y7)
/-- BallotBus$State.takeVeto -/
def fn_84 (i0 : Nat) (a1 : Int32) (a2 : Int32) (Y : Sm) : Option (Unit × Sm) :=
  bd (fn_5 i0 a1 (gI Y.1 11 (Y.2 (i0 + 3)) 2) Y) fun _ Y1 => wr (sI Y1 21 i0 5 ((gI Y1.1 21 i0 5) ||| ((nI 1) <<< (a2 &&& 31)))) fun Y3 => some ((), Y3)
/-- BallotBus.veto -/
def fn_138 (a1 : Int32) (a2 : Int32) (Y : Sm) : Option ((Int32 ⊕ Nat) × Sm) :=
  bx (fn_154 a1 Y) (fun x16 Y1 => some (.inr x16, Y1)) fun _ Y1 => bx (fn_155 a2 Y1) (fun x13 Y3 => some (.inr x13, Y3)) fun _ Y3 => bd (fn_83 0 a1 a2 Y3) fun v7 Y5 => (if v7 = (nI 0) then some (.inr 2, Y5) else bd (fn_14 0 Y5) fun _ Y8 => bd (fn_84 0 a1 a2 Y8) fun _ Y10 => ck (inb a1 8) <| some (.inl (gI Y10.1 30 0 (ix a1)), Y10))
/-- BallotBus$Accounts.settleFromCredits -/
def fn_6 (i0 : Nat) (a1 : Int32) (Y : Sm) : Option (Int32 × Sm) :=
  ck (inb a1 8) <| wr (sI Y 29 i0 (ix a1) ((gI Y.1 29 i0 (ix a1)) - (if (gI Y.1 30 i0 (ix a1)) < (gI Y.1 29 i0 (ix a1)) then (gI Y.1 30 i0 (ix a1)) else (gI Y.1 29 i0 (ix a1))))) fun Y2 => wr (sI Y2 30 i0 (ix a1) ((gI Y2.1 30 i0 (ix a1)) - (if (gI Y.1 30 i0 (ix a1)) < (gI Y.1 29 i0 (ix a1)) then (gI Y.1 30 i0 (ix a1)) else (gI Y.1 29 i0 (ix a1))))) fun Y3 => some ((if (gI Y.1 30 i0 (ix a1)) < (gI Y.1 29 i0 (ix a1)) then (gI Y.1 30 i0 (ix a1)) else (gI Y.1 29 i0 (ix a1))), Y3)
/-- BallotBus.payBack -/
def fn_139 (a1 : Int32) (Y : Sm) : Option ((Int32 ⊕ Nat) × Sm) :=
  bx (fn_154 a1 Y) (fun x8 Y1 => some (.inr x8, Y1)) fun _ Y1 => bd (fn_14 0 Y1) fun _ Y3 => bd (fn_6 0 a1 Y3) fun v7 Y5 => some (.inl v7, Y5)
/-- BallotBus.setTally -/
def fn_140 (a1 : Int32) (Y : Sm) : Option ((Int32 ⊕ Nat) × Sm) :=
  bx (fn_156 a1 Y) (fun x6 Y1 => some (.inr x6, Y1)) fun _ Y1 => bd (fn_14 0 Y1) fun _ Y3 => wr (sI Y3 21 0 2 a1) fun Y5 => some (.inl (gI Y3.1 21 0 2), Y5)
/-- BallotBus.setManner -/
def fn_141 (a1 : Int32) (a2 : Int32) (Y : Sm) : Option ((Int32 ⊕ Nat) × Sm) :=
  bx (fn_155 a1 Y) (fun x7 Y1 => some (.inr x7, Y1)) fun _ Y1 => (if a2 < (nI 0) then some (.inr 1, Y1) else (if a2 ≤ (nI 3) then bd (fn_14 0 Y1) fun _ Y3 => ck (inb a1 5) <| wr (sI Y3 23 0 (ix a1) a2) fun Y6 => some (.inl (gI Y3.1 23 0 (ix a1)), Y6) else some (.inr 1, Y1)))
/-- BallotBus$History.pop -/
def fn_15 (i1 : Nat) (Y : Sm) : Option (Unit × Sm) :=
  (if (gI Y.1 37 0 2) ≤ (nI 0) then some ((), Y) else ck (inb (gI Y.1 37 0 1) 8) <| bd (fn_72 i1 ((ix (gI Y.1 37 0 1)) + 3) Y) fun _ Y2 => (if (gI Y2.1 37 0 1) ≤ (nI 0) then wr (sI Y2 37 0 1 (nI 7)) fun Y4 => wr (sI Y4 37 0 2 ((gI Y4.1 37 0 2) - (nI 1))) fun Y5 => some ((), Y5) else wr (sI Y2 37 0 1 ((gI Y2.1 37 0 1) - (nI 1))) fun Y6 => wr (sI Y6 37 0 2 ((gI Y6.1 37 0 2) - (nI 1))) fun Y7 => some ((), Y7)))
/-- BallotBus.undo -/
def fn_142 (Y : Sm) : Option ((Int32 ⊕ Nat) × Sm) :=
  (if (gI Y.1 37 0 2) = (nI 0) then some (.inr 2, Y) else bd (fn_15 0 Y) fun _ Y1 => some (.inl (gI Y1.1 37 0 2), Y1))
/-- BallotBus.answeredIn -/
def fn_143_L27_2 (l1 : Int32) (l2 : Int32) (l3 : Int32) (Y : Sm) : Option ((Int32 × Sm) ⊕ ((Int32 ⊕ Nat) × Sm)) :=
  (if l2 < l3 then some (.inr (.inl (-1 : Int32), Y)) else bd (fn_86 1 Y) fun _ Y11 => bd (fn_38 4 l1 Y11) fun v15 Y13 => (if v15 = (-1 : Int32) then some (.inr (.inl l3, Y13)) else some (.inl ((l3 + (nI 1)), Y13))))
def fn_143 (a1 : Int32) (a2 : Int32) (Y : Sm) : Option ((Int32 ⊕ Nat) × Sm) :=
  bx (fn_157 a2 (nI 500) Y) (fun x19 Y1 => some (.inr x19, Y1)) fun _ Y1 => bx (fn_158 a1 Y1) (fun x16 Y3 => some (.inr x16, Y3)) fun v5 Y3 => bd (fn_72 1 0 Y3) fun _ Y6 => lp (fun s => fn_143_L27_2 a1 a2 s.1 s.2) FU ((nI 1), Y6)
/-- BallotBus$State.answersOf -/
def fn_75 (i0 : Nat) (a1 : Int32) (Y : Sm) : Option (Int32 × Sm) :=
  (if a1 = (-1 : Int32) then some ((gI Y.1 21 i0 8), Y) else ck (inb a1 8) <| some ((gI Y.1 32 i0 (ix a1)), Y))
/-- BallotBus.answersIn -/
def fn_144_J10 (l1 : Int32) (l2 : Int32) (Y : Sm) : Option ((Int32 ⊕ Nat) × Sm) :=
  bx (fn_157 l1 (nI 500) Y) (fun x13 Y1 => some (.inr x13, Y1)) fun _ Y1 => bd (fn_72 1 0 Y1) fun _ Y3 => bd (fn_85 1 l1 Y3) fun _ Y5 => bd (fn_75 1 l2 Y5) fun v9 Y7 => bd (fn_75 0 l2 Y7) fun v12 Y10 => some (.inl (v9 - v12), Y10)
def fn_144_J10_1 (l1 : Int32) (l2 : Int32) (Y : Sm) : Option ((Int32 ⊕ Nat) × Sm) :=
  bx (fn_157 l1 (nI 500) Y) (fun x30 Y18 => some (.inr x30, Y18)) fun _ Y18 => bd (fn_72 1 0 Y18) fun _ Y20 => bd (fn_85 1 l1 Y20) fun _ Y22 => bd (fn_75 1 l2 Y22) fun v26 Y24 => bd (fn_75 0 l2 Y24) fun v29 Y27 => some (.inl (v26 - v29), Y27)
def fn_144 (a1 : Int32) (a2 : Int32) (Y : Sm) : Option ((Int32 ⊕ Nat) × Sm) :=
  (if a2 = (-1 : Int32) then fn_144_J10 a1 a2 Y else bx (fn_154 a2 Y) (fun x33 Y16 => some (.inr x33, Y16)) fun _ Y16 => fn_144_J10_1 a1 a2 Y16)
/-- BallotBus.bestVeto -/
def fn_145_L51_2 (l1 : Int32) (l2 : Int32) (l3 : Int32) (l4 : Int32) (l5 : Int32) (Y : Sm) : Option ((Int32 × Int32 × Int32 × Sm) ⊕ ((Int32 ⊕ Nat) × Sm)) :=
  (if (gI Y.1 5 (Y.2 0) 0) ≤ l5 then some (.inr (.inl l4, Y)) else bd (fn_83 0 l1 l5 Y) fun v17 Y15 => (if v17 = (nI 0) then some (.inl (l3, l4, (l5 + (nI 1)), Y15)) else bd (fn_72 1 0 Y15) fun _ Y18 => bd (fn_84 1 l1 l5 Y18) fun _ Y20 => bd (fn_85 1 l2 Y20) fun _ Y22 => bd (fn_75 1 l1 Y22) fun v26 Y24 => (if v26 ≤ l3 then some (.inl (l3, l4, (l5 + (nI 1)), Y24)) else bd (fn_75 1 l1 Y24) fun v29 Y27 => some (.inl (v29, l5, (l5 + (nI 1)), Y27)))))
def fn_145 (a1 : Int32) (a2 : Int32) (Y : Sm) : Option ((Int32 ⊕ Nat) × Sm) :=
  bx (fn_154 a1 Y) (fun x33 Y1 => some (.inr x33, Y1)) fun _ Y1 => bx (fn_157 a2 (nI 500) Y1) (fun x30 Y3 => some (.inr x30, Y3)) fun _ Y3 => bd (fn_72 1 0 Y3) fun _ Y5 => bd (fn_85 1 a2 Y5) fun _ Y7 => bd (fn_75 1 a1 Y7) fun v11 Y9 => lp (fun s => fn_145_L51_2 a1 a2 s.1 s.2.1 s.2.2.1 s.2.2.2) FU (v11, (-1 : Int32), (nI 0), Y9)
/-- BallotBus.bestTally -/
def fn_146_L15_1 (l1 : Int32) (l2 : Int32) (l3 : Int32) (l4 : Int32) (Y : Sm) : Option ((Int32 × Int32 × Int32 × Sm) ⊕ ((Int32 ⊕ Nat) × Sm)) :=
  (if (nI 2) < l4 then some (.inr (.inl l3, Y)) else bd (fn_72 1 0 Y) fun _ Y6 => wr (sI Y6 21 1 2 l4) fun Y8 => bd (fn_85 1 l1 Y8) fun _ Y9 => (if (gI Y9.1 21 1 8) ≤ l2 then some (.inl (l2, l3, (l4 + (nI 1)), Y9)) else some (.inl ((gI Y9.1 21 1 8), l4, (l4 + (nI 1)), Y9))))
def fn_146 (a1 : Int32) (Y : Sm) : Option ((Int32 ⊕ Nat) × Sm) :=
  bx (fn_157 a1 (nI 500) Y) (fun x11 Y1 => some (.inr x11, Y1)) fun _ Y1 => lp (fun s => fn_146_L15_1 a1 s.1 s.2.1 s.2.2.1 s.2.2.2) FU ((-1 : Int32), (nI 0), (nI 0), Y1)
/-- BallotBus$Rows.encode -/
def fn_49_L4 (l1 : Int32) (l2 : Int32) (l3 : Int32) (Y : Sm) : Option ((Int32 × Int32 × Sm) ⊕ (Int32 × Sm)) :=
  (if l1 ≤ l3 then some (.inr (l2, Y)) else (if (nI 5) ≤ l3 then some (.inr (l2, Y)) else ck (inb l3 5) <| some (.inl (((l2 * (nI 10)) + (gI Y.1 46 0 (ix l3))), (l3 + (nI 1)), Y))))
def fn_49 (a1 : Int32) (Y : Sm) : Option (Int32 × Sm) :=
  lp (fun s => fn_49_L4 a1 s.1 s.2.1 s.2.2) FU ((nI 0), (nI 0), Y)
/-- BallotBus.bestBallot -/
def fn_147_L24_1 (l1 : Int32) (l2 : Int32) (l3 : Int32) (l4 : Int32) (l5 : Int32) (Y : Sm) : Option ((Int32 × Int32 × Int32 × Int32 × Sm) ⊕ ((Int32 ⊕ Nat) × Sm)) :=
  (if l4 = (nI 0) then some (.inr (.inl l3, Y)) else (if (nI 120) ≤ l5 then some (.inr (.inl l3, Y)) else bd (fn_72 1 0 Y) fun _ Y8 => bd (fn_82 1 Y8) fun _ Y10 => bd (fn_85 1 l1 Y10) fun _ Y12 => bd (fn_75 1 (gI Y12.1 21 0 3) Y12) fun v16 Y14 => (if v16 ≤ l2 then bd (fn_47 (gI Y14.1 5 (Y14.2 0) 0) Y14) fun v19 Y17 => some (.inl (l2, l3, v19, (l5 + (nI 1)), Y17)) else bd (fn_49 (gI Y14.1 5 (Y14.2 0) 0) Y14) fun v22 Y20 => bd (fn_47 (gI Y20.1 5 (Y20.2 0) 0) Y20) fun v25 Y23 => some (.inl (v16, v22, v25, (l5 + (nI 1)), Y23)))))
def fn_147 (a1 : Int32) (Y : Sm) : Option ((Int32 ⊕ Nat) × Sm) :=
  bx (fn_157 a1 (nI 100) Y) (fun x26 Y1 => some (.inr x26, Y1)) fun _ Y1 => bd (fn_43_46 Y1) fun _ Y3 => lp (fun s => fn_147_L24_1 a1 s.1 s.2.1 s.2.2.1 s.2.2.2.1 s.2.2.2.2) FU ((-1 : Int32), (-1 : Int32), (nI 1), (nI 0), Y3)
/-- BallotBus.silentIn -/
def fn_148_L18_1 (l1 : Int32) (l2 : Int32) (Y : Sm) : Option ((Int32 × Sm) ⊕ ((Int32 ⊕ Nat) × Sm)) :=
  (if (nI 1000) < l2 then some (.inr (.inl (-1 : Int32), Y)) else bd (fn_73 1 l1 Y) fun v10 Y8 => (if v10 = (nI 0) then some (.inr (.inl l2, Y8)) else bd (fn_86 1 Y8) fun _ Y11 => some (.inl ((l2 + (nI 1)), Y11))))
def fn_148 (a1 : Int32) (Y : Sm) : Option ((Int32 ⊕ Nat) × Sm) :=
  bx (fn_154 a1 Y) (fun x13 Y1 => some (.inr x13, Y1)) fun _ Y1 => bd (fn_72 1 0 Y1) fun _ Y3 => lp (fun s => fn_148_L18_1 a1 s.1 s.2) FU ((nI 0), Y3)
/-- BallotBus.emptyIn -/
def fn_149_L13 (l1 : Int32) (Y : Sm) : Option ((Int32 × Sm) ⊕ (Int32 × Sm)) :=
  (if (nI 1000) < l1 then some (.inr ((-1 : Int32), Y)) else (if (gI Y.1 12 4 1) = (nI 0) then some (.inr (l1, Y)) else bd (fn_86 1 Y) fun _ Y6 => some (.inl ((l1 + (nI 1)), Y6))))
def fn_149 (Y : Sm) : Option (Int32 × Sm) :=
  bd (fn_72 1 0 Y) fun _ Y1 => lp (fun s => fn_149_L13 s.1 s.2) FU ((nI 0), Y1)
/-- BallotBus.putByte -/
def fn_161 (a1 : Int32) (Y : Sm) : Option (Unit × Sm) :=
  (if (nI 64) ≤ (gI Y.1 0 0 3) then some ((), Y) else ck (inb (gI Y.1 0 0 3) 64) <| wr (sI Y 20 0 (ix (gI Y.1 0 0 3)) ((((a1).toInt8.toInt32)).toInt8.toInt32)) fun Y2 => wr (sI Y2 0 0 3 ((gI Y2.1 0 0 3) + (nI 1))) fun Y3 => some ((), Y3))
/-- BallotBus.putName -/
def fn_160_L3 (l1 : Int64) (l3 : Int32) (Y : Sm) : Option ((Int32 × Sm) ⊕ (Unit × Sm)) :=
  (if l3 < (nI 0) then some (.inr ((), Y)) else (if ((((l1 >>> (l3.toInt64 &&& 63))).toInt32) &&& (nI 255)) = (nI 0) then some (.inl ((l3 + (-8 : Int32)), Y)) else bd (fn_161 ((((l1 >>> (l3.toInt64 &&& 63))).toInt32) &&& (nI 255)) Y) fun _ Y4 => some (.inl ((l3 + (-8 : Int32)), Y4))))
def fn_160 (a1 : Int64) (Y : Sm) : Option (Unit × Sm) :=
  lp (fun s => fn_160_L3 a1 s.1 s.2) FU ((nI 40), Y)
/-- BallotBus.printOrder -/
def fn_150_J50_d1 (l1 : Int32) (l2 : Int32) (Y : Sm) : Option ((Int32 × Sm) ⊕ (Int32 × Sm)) :=
  ck (inb l2 5) <| bd (fn_160 (gJ Y.1 6 (Y.2 0) (ix l2)) Y) fun _ Y7 => bd (fn_74 0 l2 Y7) fun v11 Y9 => (if v11 = (nI 0) then some (.inl ((l1 + (nI 1)), Y9)) else bd (fn_161 (nI 42) Y9) fun _ Y12 => some (.inl ((l1 + (nI 1)), Y12)))
def fn_150_L7 (l1 : Int32) (Y : Sm) : Option ((Int32 × Sm) ⊕ (Int32 × Sm)) :=
  (if (gI Y.1 5 (Y.2 0) 0) ≤ l1 then some (.inr ((gI Y.1 0 0 3), Y)) else ck (inb l1 5) <| (if l1 ≤ (nI 0) then fn_150_J50_d1 l1 (gI Y.1 22 0 (ix l1)) Y else bd (fn_161 (nI 32) Y) fun _ Y14 => bd (fn_161 (nI 62) Y14) fun _ Y16 => bd (fn_161 (nI 32) Y16) fun _ Y18 => fn_150_J50_d1 l1 (gI Y.1 22 0 (ix l1)) Y18))
def fn_150 (Y : Sm) : Option (Int32 × Sm) :=
  wr (sI Y 0 0 3 (nI 0)) fun Y1 => lp (fun s => fn_150_L7 s.1 s.2) FU ((nI 0), Y1)
/-- BallotBus.outputByte -/
def fn_151 (a1 : Int32) (Y : Sm) : Option (Int32 × Sm) :=
  (if a1 < (nI 0) then some ((-1 : Int32), Y) else (if a1 < (gI Y.1 0 0 3) then ck (inb a1 64) <| some (((gI Y.1 20 0 (ix a1)) &&& (nI 255)), Y) else some ((-1 : Int32), Y)))
/-- BallotBus.saveState -/
def fn_152 (Y : Sm) : Option (Int32 × Sm) :=
  bd (fn_72 2 0 Y) fun _ Y1 => wr (sI Y1 0 0 11 (nI 1)) fun Y3 => some ((gI Y3.1 21 0 1), Y3)
/-- BallotBus.restoreState -/
def fn_153 (Y : Sm) : Option ((Int32 ⊕ Nat) × Sm) :=
  (if (gI Y.1 0 0 11) = (nI 0) then some (.inr 2, Y) else bd (fn_72 0 2 Y) fun _ Y1 => wr (sI Y1 37 0 2 (nI 0)) fun Y3 => some (.inl (gI Y3.1 21 0 1), Y3))
/-- BallotBusModel.thrown -/
def fn_163 (Y : Sm) : Option (Int32 × Sm) :=
  some ((gI Y.1 48 0 0), Y)
/-- BallotBusModel.is -/
def fn_164 (a1 : Int32) (Y : Sm) : Option (Int32 × Sm) :=
  (if a1 = (nI 0) then wr (sI Y 48 0 0 (nI 1)) fun Y1 => ck (bz a1) <| some (a1, Y1) else wr (sI Y 48 0 0 (nI 0)) fun Y3 => ck (bz a1) <| some (a1, Y3))
/-- BallotBusModel.undo -/
def fn_173_L33 (l1 : Int32) (Y : Sm) : Option ((Int32 × Sm) ⊕ (Int32 × Sm)) :=
  (if (nI 718) ≤ l1 then some (.inr ((gI Y.1 48 0 17), Y)) else ck (inb (((nI 718) * (gI Y.1 48 0 17)) + l1) 5744) <| ck (inb l1 718) <| wr (sI Y 52 0 (ix l1) (gI Y.1 57 0 (ix (((nI 718) * (gI Y.1 48 0 17)) + l1)))) fun Y10 => some (.inl ((l1 + (nI 1)), Y10)))
def fn_173_J13 (t0 : Int32) (Y : Sm) : Option (Int32 × Sm) :=
  bd (fn_164 t0 Y) fun v3 Y1 => (if v3 = (nI 0) then some ((nI 0), Y1) else wr (sI Y1 48 0 17 ((gI Y1.1 48 0 17) - (nI 1))) fun Y4 => lp (fun s => fn_173_L33 s.1 s.2) FU ((nI 0), Y4))
def fn_173 (Y : Sm) : Option (Int32 × Sm) :=
  (if (gI Y.1 48 0 17) ≤ (nI 0) then fn_173_J13 (nI 0) Y else fn_173_J13 (nI 1) Y)
/-- BallotBusModel.copies -/
def fn_170_52_56_L2 (l2 : Int32) (Y : Sm) : Option ((Int32 × Sm) ⊕ (Unit × Sm)) :=
  (if (nI 718) ≤ l2 then some (.inr ((), Y)) else ck (inb l2 718) <| wr (sI Y 56 0 (ix l2) (gI Y.1 52 0 (ix l2))) fun Y5 => some (.inl ((l2 + (nI 1)), Y5)))
def fn_170_52_56 (Y : Sm) : Option (Unit × Sm) :=
  lp (fun s => fn_170_52_56_L2 s.1 s.2) FU ((nI 0), Y)
/-- BallotBusModel.saveState -/
def fn_174 (Y : Sm) : Option (Int32 × Sm) :=
  wr (sI Y 48 0 0 (nI 0)) fun Y1 => bd (fn_170_52_56 Y1) fun _ Y2 => wr (sI Y2 48 0 18 (nI 1)) fun Y4 => some ((gI Y4.1 52 0 0), Y4)
/-- BallotBusModel.copies -/
def fn_170_56_52_L2 (l2 : Int32) (Y : Sm) : Option ((Int32 × Sm) ⊕ (Unit × Sm)) :=
  (if (nI 718) ≤ l2 then some (.inr ((), Y)) else ck (inb l2 718) <| wr (sI Y 52 0 (ix l2) (gI Y.1 56 0 (ix l2))) fun Y5 => some (.inl ((l2 + (nI 1)), Y5)))
def fn_170_56_52 (Y : Sm) : Option (Unit × Sm) :=
  lp (fun s => fn_170_56_52_L2 s.1 s.2) FU ((nI 0), Y)
/-- BallotBusModel.restoreState -/
def fn_175 (Y : Sm) : Option (Int32 × Sm) :=
  bd (fn_164 (gI Y.1 48 0 18) Y) fun v3 Y1 => (if v3 = (nI 0) then some ((nI 0), Y1) else bd (fn_170_56_52 Y1) fun _ Y4 => wr (sI Y4 48 0 17 (nI 0)) fun Y6 => some ((gI Y6.1 52 0 0), Y6))
/-- BallotBusModel.isIn -/
def fn_166 (a0 : Int64) (a1 : Int64) (a2 : Int64) (Y : Sm) : Option (Int32 × Sm) :=
  (if (lg_cmp a0 a1) < (nI 0) then some ((nI 0), Y) else (if (nI 0) < (lg_cmp a0 a2) then some ((nI 0), Y) else some ((nI 1), Y)))
/-- BallotBusModel.areTicks -/
def fn_210 (a0 : Int32) (Y : Sm) : Option (Int32 × Sm) :=
  bd (fn_166 ((a0).toInt64) (Int64.ofNat 1) (((nI 500)).toInt64) Y) fun v3 Y1 => ck (bz v3) <| some (v3, Y1)
/-- BallotBusModel.copies -/
def fn_170_52_54_L2 (l2 : Int32) (Y : Sm) : Option ((Int32 × Sm) ⊕ (Unit × Sm)) :=
  (if (nI 718) ≤ l2 then some (.inr ((), Y)) else ck (inb l2 718) <| wr (sI Y 54 0 (ix l2) (gI Y.1 52 0 (ix l2))) fun Y5 => some (.inl ((l2 + (nI 1)), Y5)))
def fn_170_52_54 (Y : Sm) : Option (Unit × Sm) :=
  lp (fun s => fn_170_52_54_L2 s.1 s.2) FU ((nI 0), Y)
/-- BallotBusModel.starts -/
def fn_171 (Y : Sm) : Option (Unit × Sm) :=
  bd (fn_170_52_54 Y) fun _ Y1 => some ((), Y1)
/-- BallotBusModel.answeredOf -/
def fn_206 (a1 : Int32) (Y : Sm) : Option (Int32 × Sm) :=
  (if a1 = (-1 : Int32) then some ((gI Y.1 52 0 7), Y) else ck (inb ((nI 52) + a1) 718) <| some ((gI Y.1 52 0 (ix ((nI 52) + a1))), Y))
/-- BallotBusModel.of -/
def fn_178 (a1 : Int32) (a2 : Int32) (Y : Sm) : Option (Int32 × Sm) :=
  ck (inb (((nI 118) + ((nI 6) * a1)) + a2) 718) <| some ((gI Y.1 52 0 (ix (((nI 118) + ((nI 6) * a1)) + a2))), Y)
/-- BallotBusModel.indexOf -/
def fn_179_L2 (l1 : Int32) (l2 : Int32) (Y : Sm) : Option ((Int32 × Sm) ⊕ (Int32 × Sm)) :=
  (if (gI Y.1 52 0 9) ≤ l2 then some (.inr ((-1 : Int32), Y)) else bd (fn_178 l2 (nI 0) Y) fun v6 Y4 => (if v6 = l1 then some (.inr (l2, Y4)) else some (.inl ((l2 + (nI 1)), Y4))))
def fn_179 (a1 : Int32) (Y : Sm) : Option (Int32 × Sm) :=
  lp (fun s => fn_179_L2 a1 s.1 s.2) FU ((nI 0), Y)
/-- BallotBusModel.lesser -/
def fn_168 (a0 : Int32) (a1 : Int32) (Y : Sm) : Option (Int32 × Sm) :=
  (if a1 ≤ a0 then some (a1, Y) else some (a0, Y))
/-- BallotBusModel.takesOut -/
def fn_182_L24 (l2 : Int32) (Y : Sm) : Option ((Int32 × Sm) ⊕ (Unit × Sm)) :=
  (if ((nI 118) + ((nI 6) * (gI Y.1 52 0 9))) ≤ l2 then some (.inr ((), Y)) else ck (inb (l2 + (nI 6)) 718) <| ck (inb l2 718) <| wr (sI Y 52 0 (ix l2) (gI Y.1 52 0 (ix (l2 + (nI 6))))) fun Y7 => some (.inl ((l2 + (nI 1)), Y7)))
def fn_182 (a1 : Int32) (Y : Sm) : Option (Unit × Sm) :=
  wr (sI Y 52 0 9 ((gI Y.1 52 0 9) - (nI 1))) fun Y1 => lp (fun s => fn_182_L24 s.1 s.2) FU (((nI 118) + ((nI 6) * a1)), Y1)
/-- BallotBusModel.answers -/
def fn_204 (a1 : Int32) (Y : Sm) : Option (Unit × Sm) :=
  bd (fn_178 a1 (nI 1) Y) fun v3 Y1 => bd (fn_178 a1 (nI 2) Y1) fun v6 Y4 => bd (fn_178 a1 (nI 3) Y4) fun v9 Y7 => ck (inb ((nI 28) + v3) 718) <| bd (fn_168 v9 (gI Y7.1 52 0 (ix ((nI 28) + v3))) Y7) fun v13 Y11 => wr (sI Y11 52 0 (ix ((nI 28) + v3)) ((gI Y11.1 52 0 (ix ((nI 28) + v3))) - v13)) fun Y14 => ck (inb ((nI 20) + v3) 718) <| bd (fn_168 (nI 999) (((gI Y14.1 52 0 (ix ((nI 20) + v3))) + v9) - v13) Y14) fun v18 Y16 => wr (sI Y16 52 0 (ix ((nI 20) + v3)) v18) fun Y19 => ck (inb ((nI 52) + v3) 718) <| wr (sI Y19 52 0 (ix ((nI 52) + v3)) ((gI Y19.1 52 0 (ix ((nI 52) + v3))) + (nI 1))) fun Y21 => ck (inb ((nI 60) + v3) 718) <| wr (sI Y21 52 0 (ix ((nI 60) + v3)) ((gI Y21.1 52 0 (ix ((nI 60) + v3))) + v9)) fun Y23 => ck (inb ((nI 68) + v6) 718) <| wr (sI Y23 52 0 (ix ((nI 68) + v6)) ((gI Y23.1 52 0 (ix ((nI 68) + v6))) + (nI 1))) fun Y25 => ck (inb ((nI 73) + v6) 718) <| bd (fn_178 a1 (nI 5) Y25) fun v29 Y27 => wr (sI Y27 52 0 (ix ((nI 73) + v6)) (((gI Y25.1 52 0 (ix ((nI 73) + v6))) + (gI Y25.1 52 0 0)) - v29)) fun Y30 => bd (fn_178 a1 (nI 0) Y30) fun v33 Y31 => ck (inb ((nI 358) + ((nI 6) * ((gI Y30.1 52 0 7) - (gI Y30.1 52 0 7) / (nI 60) * (nI 60)))) 718) <| wr (sI Y31 52 0 (ix ((nI 358) + ((nI 6) * ((gI Y30.1 52 0 7) - (gI Y30.1 52 0 7) / (nI 60) * (nI 60))))) v33) fun Y35 => ck (inb (((nI 358) + ((nI 6) * ((gI Y30.1 52 0 7) - (gI Y30.1 52 0 7) / (nI 60) * (nI 60)))) + (nI 1)) 718) <| wr (sI Y35 52 0 (ix (((nI 358) + ((nI 6) * ((gI Y30.1 52 0 7) - (gI Y30.1 52 0 7) / (nI 60) * (nI 60)))) + (nI 1))) v3) fun Y37 => ck (inb (((nI 358) + ((nI 6) * ((gI Y30.1 52 0 7) - (gI Y30.1 52 0 7) / (nI 60) * (nI 60)))) + (nI 2)) 718) <| wr (sI Y37 52 0 (ix (((nI 358) + ((nI 6) * ((gI Y30.1 52 0 7) - (gI Y30.1 52 0 7) / (nI 60) * (nI 60)))) + (nI 2))) v6) fun Y39 => bd (fn_178 a1 (nI 5) Y39) fun v42 Y40 => ck (inb (((nI 358) + ((nI 6) * ((gI Y30.1 52 0 7) - (gI Y30.1 52 0 7) / (nI 60) * (nI 60)))) + (nI 3)) 718) <| wr (sI Y40 52 0 (ix (((nI 358) + ((nI 6) * ((gI Y30.1 52 0 7) - (gI Y30.1 52 0 7) / (nI 60) * (nI 60)))) + (nI 3))) v42) fun Y44 => ck (inb (((nI 358) + ((nI 6) * ((gI Y30.1 52 0 7) - (gI Y30.1 52 0 7) / (nI 60) * (nI 60)))) + (nI 4)) 718) <| wr (sI Y44 52 0 (ix (((nI 358) + ((nI 6) * ((gI Y30.1 52 0 7) - (gI Y30.1 52 0 7) / (nI 60) * (nI 60)))) + (nI 4))) (gI Y44.1 52 0 0)) fun Y46 => ck (inb (((nI 358) + ((nI 6) * ((gI Y30.1 52 0 7) - (gI Y30.1 52 0 7) / (nI 60) * (nI 60)))) + (nI 5)) 718) <| wr (sI Y46 52 0 (ix (((nI 358) + ((nI 6) * ((gI Y30.1 52 0 7) - (gI Y30.1 52 0 7) / (nI 60) * (nI 60)))) + (nI 5))) v13) fun Y48 => wr (sI Y48 52 0 7 ((gI Y48.1 52 0 7) + (nI 1))) fun Y49 => wr (sI Y49 52 0 8 (-1 : Int32)) fun Y50 => bd (fn_182 a1 Y50) fun _ Y51 => some ((), Y51)
/-- BallotBusModel.worksOn -/
def fn_203 (Y : Sm) : Option (Unit × Sm) :=
  bd (fn_179 (gI Y.1 52 0 8) Y) fun v3 Y1 => bd (fn_178 v3 (nI 4) Y1) fun v6 Y4 => ck (inb (((nI 118) + ((nI 6) * v3)) + (nI 4)) 718) <| wr (sI Y4 52 0 (ix (((nI 118) + ((nI 6) * v3)) + (nI 4))) (v6 - (nI 1))) fun Y8 => bd (fn_178 v3 (nI 4) Y8) fun v11 Y9 => (if v11 = (nI 0) then bd (fn_204 v3 Y9) fun _ Y12 => some ((), Y12) else some ((), Y9))
/-- BallotBusModel.has -/
def fn_167 (a0 : Int32) (a1 : Int32) (Y : Sm) : Option (Int32 × Sm) :=
  (if ((a0 >>> (a1 &&& 31)) &&& (nI 1)) = (nI 1) then some ((nI 1), Y) else some ((nI 0), Y))
/-- BallotBusModel.doesWait -/
def fn_180 (a1 : Int32) (Y : Sm) : Option (Int32 × Sm) :=
  bd (fn_178 a1 (nI 0) Y) fun v3 Y1 => (if v3 = (gI Y1.1 52 0 8) then some ((nI 0), Y1) else some ((nI 1), Y1))
/-- BallotBusModel.isInLine -/
def fn_186 (a1 : Int32) (a2 : Int32) (Y : Sm) : Option (Int32 × Sm) :=
  bd (fn_178 a1 (nI 2) Y) fun v3 Y1 => (if v3 = a2 then bd (fn_180 a1 Y1) fun v6 Y4 => (if v6 = (nI 0) then some ((nI 0), Y4) else some ((nI 1), Y4)) else some ((nI 0), Y1))
/-- BallotBusModel.claimOf -/
def fn_184 (a1 : Int32) (Y : Sm) : Option (Int32 × Sm) :=
  bd (fn_178 a1 (nI 2) Y) fun v3 Y1 => ck (inb ((nI 15) + v3) 718) <| (if (gI Y1.1 52 0 (ix ((nI 15) + v3))) = (nI 1) then bd (fn_178 a1 (nI 3) Y1) fun v10 Y8 => some ((-v10), Y8) else (if (gI Y1.1 52 0 (ix ((nI 15) + v3))) = (nI 2) then bd (fn_178 a1 (nI 1) Y1) fun v13 Y11 => ck (inb ((nI 20) + v13) 718) <| some ((gI Y11.1 52 0 (ix ((nI 20) + v13))), Y11) else (if (gI Y1.1 52 0 (ix ((nI 15) + v3))) = (nI 3) then bd (fn_178 a1 (nI 1) Y1) fun v17 Y15 => ck (inb ((nI 28) + v17) 718) <| some ((gI Y15.1 52 0 (ix ((nI 28) + v17))), Y15) else some ((nI 0), Y1))))
/-- BallotBusModel.isAhead -/
def fn_185 (a1 : Int32) (a2 : Int32) (Y : Sm) : Option (Int32 × Sm) :=
  bd (fn_184 a1 Y) fun v3 Y1 => bd (fn_184 a2 Y1) fun v6 Y4 => (if v3 = v6 then bd (fn_178 a1 (nI 0) Y4) fun v9 Y7 => bd (fn_178 a2 (nI 0) Y7) fun v12 Y10 => (if v12 ≤ v9 then some ((nI 0), Y10) else some ((nI 1), Y10)) else bd (fn_184 a1 Y4) fun v15 Y13 => bd (fn_184 a2 Y13) fun v18 Y16 => (if v15 ≤ v18 then some ((nI 0), Y16) else some ((nI 1), Y16)))
/-- BallotBusModel.aheadOf -/
def fn_187_L4 (l1 : Int32) (l2 : Int32) (l3 : Int32) (Y : Sm) : Option ((Int32 × Int32 × Sm) ⊕ (Int32 × Sm)) :=
  (if (gI Y.1 52 0 9) ≤ l3 then some (.inr (l2, Y)) else bd (fn_178 l1 (nI 2) Y) fun v6 Y4 => bd (fn_186 l3 v6 Y4) fun v9 Y7 => (if v9 = (nI 0) then some (.inl (l2, (l3 + (nI 1)), Y7)) else bd (fn_185 l3 l1 Y7) fun v12 Y10 => (if v12 = (nI 0) then some (.inl (l2, (l3 + (nI 1)), Y10)) else some (.inl ((l2 + (nI 1)), (l3 + (nI 1)), Y10)))))
def fn_187 (a1 : Int32) (Y : Sm) : Option (Int32 × Sm) :=
  lp (fun s => fn_187_L4 a1 s.1 s.2.1 s.2.2) FU ((nI 0), (nI 0), Y)
/-- BallotBusModel.inLine -/
def fn_188_L2 (l1 : Int32) (l2 : Int32) (l3 : Int32) (Y : Sm) : Option ((Int32 × Sm) ⊕ (Int32 × Sm)) :=
  (if (gI Y.1 52 0 9) ≤ l3 then some (.inr ((-1 : Int32), Y)) else bd (fn_186 l3 l1 Y) fun v6 Y4 => (if v6 = (nI 0) then some (.inl ((l3 + (nI 1)), Y4)) else bd (fn_187 l3 Y4) fun v9 Y7 => (if v9 = l2 then some (.inr (l3, Y7)) else some (.inl ((l3 + (nI 1)), Y7)))))
def fn_188 (a1 : Int32) (a2 : Int32) (Y : Sm) : Option (Int32 × Sm) :=
  lp (fun s => fn_188_L2 a1 a2 s.1 s.2) FU ((nI 0), Y)
/-- BallotBusModel.takesNext -/
def fn_202_J43_d1 (l1 : Int32) (t0 : Int32) (Y : Sm) : Option ((Int32 × Sm) ⊕ ((Int32 × Sm) ⊕ (Unit × Sm))) :=
  (if t0 = (-1 : Int32) then some (.inl ((l1 + (nI 1)), Y)) else some (.inr (.inl (t0, Y))))
def fn_202_L2 (l1 : Int32) (Y : Sm) : Option ((Int32 × Sm) ⊕ ((Int32 × Sm) ⊕ (Unit × Sm))) :=
  (if (gI Y.1 48 0 1) ≤ l1 then some (.inr (.inr ((), Y))) else ck (inb ((nI 10) + l1) 718) <| bd (fn_167 (gI Y.1 52 0 4) (gI Y.1 52 0 (ix ((nI 10) + l1))) Y) fun v10 Y8 => (if v10 = (nI 0) then bd (fn_188 (gI Y.1 52 0 (ix ((nI 10) + l1))) (nI 0) Y8) fun v13 Y11 => fn_202_J43_d1 l1 v13 Y11 else fn_202_J43_d1 l1 (-1 : Int32) Y8))
def fn_202_J52 (l3 : Int32) (Y : Sm) : Option (Unit × Sm) :=
  bd (fn_178 l3 (nI 0) Y) fun v16 Y14 => wr (sI Y14 52 0 8 v16) fun Y17 => some ((), Y17)
def fn_202 (Y : Sm) : Option (Unit × Sm) :=
  exd (lp (fun s => fn_202_L2 s.1 s.2) FU ((nI 0), Y)) fun s9 => fn_202_J52 s9.1 s9.2
/-- BallotBusModel.passesOn -/
def fn_201_J41 (l1 : Int32) (Y : Sm) : Option (Unit × Sm) :=
  wr (sI Y 52 0 3 (nI 0)) fun Y1 => ck (nz (gI Y1.1 48 0 2)) <| wr (sI Y1 52 0 2 ((l1 + (nI 1)) - (l1 + (nI 1)) / (gI Y1.1 48 0 2) * (gI Y1.1 48 0 2))) fun Y3 => some ((), Y3)
def fn_201 (Y : Sm) : Option (Unit × Sm) :=
  (if (gI Y.1 52 0 3) = (nI 0) then ck (inb ((nI 36) + (gI Y.1 52 0 2)) 718) <| bd (fn_168 (nI 99) ((gI Y.1 52 0 (ix ((nI 36) + (gI Y.1 52 0 2)))) + (nI 1)) Y) fun v7 Y5 => wr (sI Y5 52 0 (ix ((nI 36) + (gI Y.1 52 0 2))) v7) fun Y8 => fn_201_J41 (gI Y.1 52 0 2) Y8 else fn_201_J41 (gI Y.1 52 0 2) Y)
/-- BallotBusModel.counts -/
def fn_189 (a1 : Int32) (Y : Sm) : Option (Int32 × Sm) :=
  (if a1 = (gI Y.1 48 0 19) then some ((nI 0), Y) else ck (inb ((nI 36) + a1) 718) <| (if (gI Y.1 48 0 7) ≤ (gI Y.1 52 0 (ix ((nI 36) + a1))) then some ((nI 0), Y) else some ((nI 1), Y)))
/-- BallotBusModel.doesAnyCount -/
def fn_190_L2 (l1 : Int32) (Y : Sm) : Option ((Int32 × Sm) ⊕ (Int32 × Sm)) :=
  (if (gI Y.1 48 0 2) ≤ l1 then some (.inr ((nI 0), Y)) else bd (fn_189 l1 Y) fun v6 Y4 => (if v6 = (nI 0) then some (.inl ((l1 + (nI 1)), Y4)) else some (.inr ((nI 1), Y4))))
def fn_190 (Y : Sm) : Option (Int32 × Sm) :=
  lp (fun s => fn_190_L2 s.1 s.2) FU ((nI 0), Y)
/-- BallotBusModel.onBallot -/
def fn_191 (a1 : Int32) (a2 : Int32) (Y : Sm) : Option (Int32 × Sm) :=
  ck (inb (((nI 78) + ((nI 5) * a1)) + a2) 718) <| some ((gI Y.1 52 0 (ix (((nI 78) + ((nI 5) * a1)) + a2))), Y)
/-- BallotBusModel.placeOf -/
def fn_192_L2 (l1 : Int32) (l2 : Int32) (l3 : Int32) (Y : Sm) : Option ((Int32 × Sm) ⊕ (Int32 × Sm)) :=
  bd (fn_191 l1 l3 Y) fun v6 Y4 => (if v6 = l2 then some (.inr (l3, Y4)) else some (.inl ((l3 + (nI 1)), Y4)))
def fn_192 (a1 : Int32) (a2 : Int32) (Y : Sm) : Option (Int32 × Sm) :=
  lp (fun s => fn_192_L2 a1 a2 s.1 s.2) FU ((nI 0), Y)
/-- BallotBusModel.pointsOf -/
def fn_193_L4 (l1 : Int32) (l2 : Int32) (l3 : Int32) (Y : Sm) : Option ((Int32 × Int32 × Sm) ⊕ (Int32 × Sm)) :=
  (if (gI Y.1 48 0 2) ≤ l3 then some (.inr (l2, Y)) else bd (fn_189 l3 Y) fun v6 Y4 => (if v6 = (nI 0) then some (.inl (l2, (l3 + (nI 1)), Y4)) else ck (inb l3 8) <| bd (fn_192 l3 l1 Y4) fun v10 Y8 => some (.inl ((l2 + ((gI Y4.1 49 0 (ix l3)) * (((gI Y4.1 48 0 1) - (nI 1)) - v10))), (l3 + (nI 1)), Y8))))
def fn_193 (a1 : Int32) (Y : Sm) : Option (Int32 × Sm) :=
  lp (fun s => fn_193_L4 a1 s.1 s.2.1 s.2.2) FU ((nI 0), (nI 0), Y)
/-- BallotBusModel.leadOf -/
def fn_195_L5 (l1 : Int32) (l2 : Int32) (l3 : Int32) (l4 : Int32) (Y : Sm) : Option ((Int32 × Int32 × Sm) ⊕ (Int32 × Sm)) :=
  (if (gI Y.1 48 0 2) ≤ l4 then some (.inr (l3, Y)) else bd (fn_189 l4 Y) fun v6 Y4 => (if v6 = (nI 0) then some (.inl (l3, (l4 + (nI 1)), Y4)) else bd (fn_192 l4 l1 Y4) fun v9 Y7 => bd (fn_192 l4 l2 Y7) fun v12 Y10 => (if v12 ≤ v9 then ck (inb l4 8) <| some (.inl ((l3 + (-(gI Y10.1 49 0 (ix l4)))), (l4 + (nI 1)), Y10)) else ck (inb l4 8) <| some (.inl ((l3 + (gI Y10.1 49 0 (ix l4))), (l4 + (nI 1)), Y10)))))
def fn_195 (a1 : Int32) (a2 : Int32) (Y : Sm) : Option (Int32 × Sm) :=
  lp (fun s => fn_195_L5 a1 a2 s.1 s.2.1 s.2.2) FU ((nI 0), (nI 0), Y)
/-- BallotBusModel.doesBeat -/
def fn_196 (a1 : Int32) (a2 : Int32) (Y : Sm) : Option (Int32 × Sm) :=
  (if a1 = a2 then some ((nI 0), Y) else bd (fn_195 a1 a2 Y) fun v3 Y1 => (if v3 ≤ (nI 0) then some ((nI 0), Y1) else some ((nI 1), Y1)))
/-- BallotBusModel.winsOf -/
def fn_197_L4 (l1 : Int32) (l2 : Int32) (l3 : Int32) (Y : Sm) : Option ((Int32 × Int32 × Sm) ⊕ (Int32 × Sm)) :=
  (if (gI Y.1 48 0 1) ≤ l3 then some (.inr (l2, Y)) else bd (fn_196 l1 l3 Y) fun v6 Y4 => (if v6 = (nI 0) then some (.inl (l2, (l3 + (nI 1)), Y4)) else some (.inl ((l2 + (nI 1)), (l3 + (nI 1)), Y4))))
def fn_197 (a1 : Int32) (Y : Sm) : Option (Int32 × Sm) :=
  lp (fun s => fn_197_L4 a1 s.1 s.2.1 s.2.2) FU ((nI 0), (nI 0), Y)
/-- BallotBusModel.firstsOf -/
def fn_194_L5 (l1 : Int32) (l2 : Int32) (l3 : Int32) (l4 : Int32) (Y : Sm) : Option ((Int32 × Int32 × Sm) ⊕ (Int32 × Sm)) :=
  (if (gI Y.1 48 0 2) ≤ l4 then some (.inr (l3, Y)) else bd (fn_189 l4 Y) fun v6 Y4 => (if v6 = (nI 0) then some (.inl (l3, (l4 + (nI 1)), Y4)) else bd (fn_191 l4 l2 Y4) fun v9 Y7 => (if v9 = l1 then ck (inb l4 8) <| some (.inl ((l3 + (gI Y7.1 49 0 (ix l4))), (l4 + (nI 1)), Y7)) else some (.inl (l3, (l4 + (nI 1)), Y7)))))
def fn_194 (a1 : Int32) (a2 : Int32) (Y : Sm) : Option (Int32 × Sm) :=
  lp (fun s => fn_194_L5 a1 a2 s.1 s.2.1 s.2.2) FU ((nI 0), (nI 0), Y)
/-- BallotBusModel.isBetter -/
def fn_198_J111 (l2 : Int32) (l3 : Int32) (Y : Sm) : Option (Int32 × Sm) :=
  bd (fn_193 l2 Y) fun v3 Y1 => bd (fn_193 l3 Y1) fun v6 Y4 => (if v3 = v6 then (if l3 ≤ l2 then some ((nI 0), Y4) else some ((nI 1), Y4)) else bd (fn_193 l2 Y4) fun v9 Y7 => bd (fn_193 l3 Y7) fun v12 Y10 => (if v9 ≤ v12 then some ((nI 0), Y10) else some ((nI 1), Y10)))
def fn_198_L8 (l2 : Int32) (l3 : Int32) (l4 : Int32) (Y : Sm) : Option ((Int32 × Sm) ⊕ (Int32 × Sm)) :=
  (if (gI Y.1 48 0 1) ≤ l4 then (if l3 ≤ l2 then some (.inr ((nI 0), Y)) else some (.inr ((nI 1), Y))) else bd (fn_194 l2 l4 Y) fun v30 Y28 => bd (fn_194 l3 l4 Y28) fun v33 Y31 => (if v30 = v33 then some (.inl ((l4 + (nI 1)), Y31)) else bd (fn_194 l2 l4 Y31) fun v36 Y34 => bd (fn_194 l3 l4 Y34) fun v39 Y37 => (if v36 ≤ v39 then some (.inr ((nI 0), Y37)) else some (.inr ((nI 1), Y37)))))
def fn_198 (a1 : Int32) (a2 : Int32) (a3 : Int32) (Y : Sm) : Option (Int32 × Sm) :=
  (if a1 = (nI 1) then lp (fun s => fn_198_L8 a2 a3 s.1 s.2) FU ((nI 0), Y) else (if a1 = (nI 2) then bd (fn_197 a2 Y) fun v15 Y13 => bd (fn_197 a3 Y13) fun v18 Y16 => (if v15 = v18 then fn_198_J111 a2 a3 Y16 else bd (fn_197 a2 Y16) fun v21 Y19 => bd (fn_197 a3 Y19) fun v24 Y22 => (if v21 ≤ v24 then some ((nI 0), Y22) else some ((nI 1), Y22))) else fn_198_J111 a2 a3 Y))
/-- BallotBusModel.tallies -/
def fn_199_L43_d1 (l1 : Int32) (l2 : Int32) (l3 : Int32) (l4 : Int32) (l5 : Int32) (Y : Sm) : Option ((Int32 × Int32 × Sm) ⊕ ((Int32 × Sm) ⊕ (Unit × Sm))) :=
  (if (gI Y.1 48 0 1) ≤ l5 then ck (inb l4 5) <| wr (sI Y 58 0 (ix l4) l3) fun Y11 => some (.inr (.inl ((l3 + (nI 1)), Y11))) else (if l5 = l3 then some (.inl (l4, (l5 + (nI 1)), Y)) else bd (fn_198 l1 l5 l3 Y) fun v14 Y12 => (if v14 = (nI 0) then some (.inl (l4, (l5 + (nI 1)), Y12)) else some (.inl ((l4 + (nI 1)), (l5 + (nI 1)), Y12)))))
def fn_199_L7 (l1 : Int32) (l2 : Int32) (l3 : Int32) (Y : Sm) : Option ((Int32 × Sm) ⊕ (Unit × Sm)) :=
  (if (gI Y.1 48 0 1) ≤ l3 then some (.inr ((), Y)) else (if l2 = (nI 0) then ck (inb ((nI 10) + l3) 718) <| ck (inb l3 5) <| wr (sI Y 58 0 (ix l3) (gI Y.1 52 0 (ix ((nI 10) + l3)))) fun Y17 => some (.inl ((l3 + (nI 1)), Y17)) else lp (fun s => fn_199_L43_d1 l1 l2 l3 s.1 s.2.1 s.2.2) FU ((nI 0), (nI 0), Y)))
def fn_199 (a1 : Int32) (Y : Sm) : Option (Unit × Sm) :=
  bd (fn_190 Y) fun v3 Y1 => lp (fun s => fn_199_L7 a1 v3 s.1 s.2) FU ((nI 0), Y1)
/-- BallotBusModel.ordersAnew -/
def fn_200_L12 (l1 : Int32) (Y : Sm) : Option ((Int32 × Sm) ⊕ ((Sm) ⊕ (Unit × Sm))) :=
  (if (gI Y.1 48 0 1) ≤ l1 then some (.inr (.inl (Y))) else ck (inb l1 5) <| ck (inb ((nI 10) + l1) 718) <| wr (sI Y 52 0 (ix ((nI 10) + l1)) (gI Y.1 58 0 (ix l1))) fun Y11 => some (.inl ((l1 + (nI 1)), Y11)))
def fn_200_J41 (Y : Sm) : Option (Unit × Sm) :=
  wr (sI Y 52 0 4 (nI 0)) fun Y12 => wr (sI Y12 52 0 5 ((gI Y12.1 52 0 5) + (nI 1))) fun Y13 => some ((), Y13)
def fn_200 (Y : Sm) : Option (Unit × Sm) :=
  bd (fn_199 (gI Y.1 52 0 1) Y) fun _ Y1 => exd (lp (fun s => fn_200_L12 s.1 s.2) FU ((nI 0), Y1)) fun s9 => fn_200_J41 s9
/-- BallotBusModel.ticks -/
def fn_205_J52 (l1 : Int32) (Y : Sm) : Option (Unit × Sm) :=
  (if (gI Y.1 52 0 8) = (-1 : Int32) then wr (sI Y 52 0 0 (l1 + (nI 1))) fun Y2 => some ((), Y2) else bd (fn_203 Y) fun _ Y3 => wr (sI Y3 52 0 0 (l1 + (nI 1))) fun Y5 => some ((), Y5))
def fn_205_J37 (l1 : Int32) (Y : Sm) : Option (Unit × Sm) :=
  (if (gI Y.1 52 0 8) = (-1 : Int32) then bd (fn_202 Y) fun _ Y6 => fn_205_J52 l1 Y6 else fn_205_J52 l1 Y)
def fn_205_J20 (l1 : Int32) (Y : Sm) : Option (Unit × Sm) :=
  (if l1 ≤ (nI 0) then fn_205_J37 l1 Y else ck (nz (gI Y.1 48 0 3)) <| (if (l1 - l1 / (gI Y.1 48 0 3) * (gI Y.1 48 0 3)) = (nI 0) then bd (fn_201 Y) fun _ Y9 => fn_205_J37 l1 Y9 else fn_205_J37 l1 Y))
def fn_205 (Y : Sm) : Option (Unit × Sm) :=
  ck (nz (gI Y.1 48 0 4)) <| (if ((gI Y.1 52 0 0) - (gI Y.1 52 0 0) / (gI Y.1 48 0 4) * (gI Y.1 48 0 4)) = (nI 0) then bd (fn_200 Y) fun _ Y11 => fn_205_J20 (gI Y.1 52 0 0) Y11 else fn_205_J20 (gI Y.1 52 0 0) Y)
/-- BallotBusModel.goesOn -/
def fn_207_L9 (l1 : Int32) (l2 : Int32) (l3 : Int32) (l4 : Int32) (Y : Sm) : Option ((Int32 × Sm) ⊕ ((Sm) ⊕ (Int32 × Sm))) :=
  (if l1 ≤ l4 then some (.inr (.inl (Y))) else bd (fn_205 Y) fun _ Y10 => some (.inl ((l4 + (nI 1)), Y10)))
def fn_207_J25 (l2 : Int32) (l3 : Int32) (Y : Sm) : Option (Int32 × Sm) :=
  bd (fn_206 l2 Y) fun v14 Y12 => some ((v14 - l3), Y12)
def fn_207 (a1 : Int32) (a2 : Int32) (Y : Sm) : Option (Int32 × Sm) :=
  bd (fn_206 a2 Y) fun v3 Y1 => exd (lp (fun s => fn_207_L9 a1 a2 v3 s.1 s.2) FU ((nI 0), Y1)) fun s9 => fn_207_J25 a2 v3 s9
/-- BallotBusModel.done -/
def fn_172_L52 (l1 : Int32) (l2 : Int32) (Y : Sm) : Option ((Int32 × Sm) ⊕ (Int32 × Sm)) :=
  (if (nI 718) ≤ l2 then wr (sI Y 48 0 17 ((gI Y.1 48 0 17) + (nI 1))) fun Y4 => some (.inr (l1, Y4)) else ck (inb l2 718) <| ck (inb (((nI 718) * (gI Y.1 48 0 17)) + l2) 5744) <| wr (sI Y 57 0 (ix (((nI 718) * (gI Y.1 48 0 17)) + l2)) (gI Y.1 54 0 (ix l2))) fun Y7 => some (.inl ((l2 + (nI 1)), Y7)))
def fn_172_J50 (l1 : Int32) (Y : Sm) : Option (Int32 × Sm) :=
  lp (fun s => fn_172_L52 l1 s.1 s.2) FU ((nI 0), Y)
def fn_172_L11 (l1 : Int32) (l2 : Int32) (Y : Sm) : Option ((Int32 × Sm) ⊕ ((Sm) ⊕ (Int32 × Sm))) :=
  (if (nI 5026) ≤ l2 then some (.inr (.inl (Y))) else ck (inb (l2 + (nI 718)) 5744) <| ck (inb l2 5744) <| wr (sI Y 57 0 (ix l2) (gI Y.1 57 0 (ix (l2 + (nI 718))))) fun Y16 => some (.inl ((l2 + (nI 1)), Y16)))
def fn_172_J40 (l1 : Int32) (Y : Sm) : Option (Int32 × Sm) :=
  wr (sI Y 48 0 17 ((gI Y.1 48 0 17) - (nI 1))) fun Y17 => fn_172_J50 l1 Y17
def fn_172 (a1 : Int32) (Y : Sm) : Option (Int32 × Sm) :=
  (if (gI Y.1 48 0 17) = (nI 8) then exd (lp (fun s => fn_172_L11 a1 s.1 s.2) FU ((nI 0), Y)) fun s9 => fn_172_J40 a1 s9 else fn_172_J50 a1 Y)
/-- BallotBusModel.run -/
def fn_211 (a1 : Int32) (Y : Sm) : Option (Int32 × Sm) :=
  bd (fn_210 a1 Y) fun v3 Y1 => bd (fn_164 v3 Y1) fun v6 Y4 => (if v6 = (nI 0) then some ((nI 0), Y4) else bd (fn_171 Y4) fun _ Y7 => bd (fn_207 a1 (-1 : Int32) Y7) fun v11 Y9 => bd (fn_172 v11 Y9) fun v14 Y12 => some (v14, Y12))
/-- BallotBusModel.isAsker -/
def fn_208 (a1 : Int32) (Y : Sm) : Option (Int32 × Sm) :=
  bd (fn_166 ((a1).toInt64) (Int64.ofNat 0) (((gI Y.1 48 0 2) - (nI 1)).toInt64) Y) fun v3 Y1 => ck (bz v3) <| some (v3, Y1)
/-- BallotBusModel.may -/
def fn_165 (a1 : Int32) (a2 : Int32) (Y : Sm) : Option (Int32 × Sm) :=
  (if a1 = (nI 0) then wr (sI Y 48 0 0 a2) fun Y1 => ck (bz a1) <| some (a1, Y1) else wr (sI Y 48 0 0 (nI 0)) fun Y3 => ck (bz a1) <| some (a1, Y3))
/-- BallotBusModel.comes -/
def fn_183 (a1 : Int32) (a2 : Int32) (a3 : Int32) (Y : Sm) : Option (Int32 × Sm) :=
  ck (inb (((nI 118) + ((nI 6) * (gI Y.1 52 0 9))) + (nI 0)) 718) <| wr (sI Y 52 0 (ix (((nI 118) + ((nI 6) * (gI Y.1 52 0 9))) + (nI 0))) (gI Y.1 52 0 6)) fun Y2 => ck (inb (((nI 118) + ((nI 6) * (gI Y.1 52 0 9))) + (nI 1)) 718) <| wr (sI Y2 52 0 (ix (((nI 118) + ((nI 6) * (gI Y.1 52 0 9))) + (nI 1))) a1) fun Y4 => ck (inb (((nI 118) + ((nI 6) * (gI Y.1 52 0 9))) + (nI 2)) 718) <| wr (sI Y4 52 0 (ix (((nI 118) + ((nI 6) * (gI Y.1 52 0 9))) + (nI 2))) a2) fun Y6 => ck (inb (((nI 118) + ((nI 6) * (gI Y.1 52 0 9))) + (nI 3)) 718) <| wr (sI Y6 52 0 (ix (((nI 118) + ((nI 6) * (gI Y.1 52 0 9))) + (nI 3))) a3) fun Y8 => ck (inb (((nI 118) + ((nI 6) * (gI Y.1 52 0 9))) + (nI 4)) 718) <| wr (sI Y8 52 0 (ix (((nI 118) + ((nI 6) * (gI Y.1 52 0 9))) + (nI 4))) a3) fun Y10 => ck (inb (((nI 118) + ((nI 6) * (gI Y.1 52 0 9))) + (nI 5)) 718) <| wr (sI Y10 52 0 (ix (((nI 118) + ((nI 6) * (gI Y.1 52 0 9))) + (nI 5))) (gI Y10.1 52 0 0)) fun Y12 => wr (sI Y12 52 0 9 ((gI Y12.1 52 0 9) + (nI 1))) fun Y13 => wr (sI Y13 52 0 6 ((gI Y.1 52 0 6) + (nI 1))) fun Y14 => some ((gI Y.1 52 0 6), Y14)
/-- BallotBusModel.isClass -/
def fn_209 (a1 : Int32) (Y : Sm) : Option (Int32 × Sm) :=
  bd (fn_166 ((a1).toInt64) (Int64.ofNat 0) (((gI Y.1 48 0 1) - (nI 1)).toInt64) Y) fun v3 Y1 => ck (bz v3) <| some (v3, Y1)
/-- BallotBusModel.ask -/
def fn_212_J78 (l1 : Int32) (l2 : Int32) (l3 : Int32) (t0 : Int32) (Y : Sm) : Option (Int32 × Sm) :=
  bd (fn_165 t0 (nI 3) Y) fun v15 Y13 => (if v15 = (nI 0) then some ((nI 0), Y13) else bd (fn_171 Y13) fun _ Y16 => bd (fn_183 l1 l2 l3 Y16) fun v20 Y18 => bd (fn_172 v20 Y18) fun v23 Y21 => some (v23, Y21))
def fn_212_J77 (l1 : Int32) (l2 : Int32) (l3 : Int32) (Y : Sm) : Option (Int32 × Sm) :=
  fn_212_J78 l1 l2 l3 (nI 0) Y
def fn_212_J22 (l1 : Int32) (l2 : Int32) (l3 : Int32) (t0 : Int32) (Y : Sm) : Option (Int32 × Sm) :=
  bd (fn_164 t0 Y) fun v6 Y4 => (if v6 = (nI 0) then some ((nI 0), Y4) else bd (fn_166 ((l3).toInt64) (Int64.ofNat 1) (((nI 20)).toInt64) Y4) fun v9 Y7 => bd (fn_165 v9 (nI 2) Y7) fun v12 Y10 => (if v12 = (nI 0) then some ((nI 0), Y10) else (if (nI 40) ≤ (gI Y10.1 52 0 9) then fn_212_J77 l1 l2 l3 Y10 else (if (nI 9999) ≤ (gI Y10.1 52 0 6) then fn_212_J77 l1 l2 l3 Y10 else fn_212_J78 l1 l2 l3 (nI 1) Y10))))
def fn_212_J21 (l1 : Int32) (l2 : Int32) (l3 : Int32) (Y : Sm) : Option (Int32 × Sm) :=
  fn_212_J22 l1 l2 l3 (nI 0) Y
def fn_212 (a1 : Int32) (a2 : Int32) (a3 : Int32) (Y : Sm) : Option (Int32 × Sm) :=
  bd (fn_208 a1 Y) fun v3 Y1 => (if v3 = (nI 0) then fn_212_J21 a1 a2 a3 Y1 else bd (fn_209 a2 Y1) fun v26 Y24 => (if v26 = (nI 0) then fn_212_J21 a1 a2 a3 Y24 else fn_212_J22 a1 a2 a3 (nI 1) Y24))
/-- BallotBusModel.cancel -/
def fn_213_J17 (l2 : Int32) (t0 : Int32) (Y : Sm) : Option (Int32 × Sm) :=
  bd (fn_165 t0 (nI 2) Y) fun v6 Y4 => (if v6 = (nI 0) then some ((nI 0), Y4) else bd (fn_180 l2 Y4) fun v9 Y7 => bd (fn_165 v9 (nI 1) Y7) fun v12 Y10 => (if v12 = (nI 0) then some ((nI 0), Y10) else bd (fn_171 Y10) fun _ Y13 => bd (fn_178 l2 (nI 3) Y13) fun v17 Y15 => bd (fn_182 l2 Y15) fun _ Y18 => bd (fn_172 v17 Y18) fun v22 Y20 => some (v22, Y20)))
def fn_213 (a1 : Int32) (Y : Sm) : Option (Int32 × Sm) :=
  bd (fn_179 a1 Y) fun v3 Y1 => (if v3 = (-1 : Int32) then fn_213_J17 v3 (nI 0) Y1 else fn_213_J17 v3 (nI 1) Y1)
/-- BallotBusModel.casts -/
def fn_215_L9 (l1 : Int32) (l2 : Int32) (Y : Sm) : Option ((Int32 × Sm) ⊕ ((Sm) ⊕ (Int32 × Sm))) :=
  (if (gI Y.1 48 0 1) ≤ l2 then some (.inr (.inl (Y))) else ck (inb l2 5) <| ck (inb (((nI 78) + ((nI 5) * l1)) + l2) 718) <| wr (sI Y 52 0 (ix (((nI 78) + ((nI 5) * l1)) + l2)) (gI Y.1 58 0 (ix l2))) fun Y9 => some (.inl ((l2 + (nI 1)), Y9)))
def fn_215_J42 (l1 : Int32) (Y : Sm) : Option (Int32 × Sm) :=
  ck (inb ((nI 36) + l1) 718) <| wr (sI Y 52 0 (ix ((nI 36) + l1)) (nI 0)) fun Y11 => wr (sI Y11 52 0 3 (nI 1)) fun Y12 => some (l1, Y12)
def fn_215 (Y : Sm) : Option (Int32 × Sm) :=
  exd (lp (fun s => fn_215_L9 (gI Y.1 52 0 2) s.1 s.2) FU ((nI 0), Y)) fun s9 => fn_215_J42 (gI Y.1 52 0 2) s9
/-- BallotBusModel.isBallot -/
def fn_214_L12 (l2 : Int32) (l3 : Int32) (l4 : Int32) (Y : Sm) : Option ((Int32 × Int32 × Int32 × Sm) ⊕ ((Int32 × Sm) ⊕ (Int32 × Sm))) :=
  (if l4 < (nI 0) then some (.inr (.inl (l2, Y))) else bd (fn_209 (l2 - l2 / (nI 10) * (nI 10)) Y) fun v9 Y7 => (if v9 = (nI 0) then some (.inr (.inr ((nI 0), Y7))) else bd (fn_167 l3 (l2 - l2 / (nI 10) * (nI 10)) Y7) fun v12 Y10 => (if v12 = (nI 0) then ck (inb l4 5) <| wr (sI Y10 58 0 (ix l4) (l2 - l2 / (nI 10) * (nI 10))) fun Y14 => some (.inl ((l2 / (nI 10)), (l3 ||| ((nI 1) <<< ((l2 - l2 / (nI 10) * (nI 10)) &&& 31))), (l4 + (-1 : Int32)), Y14)) else some (.inr (.inr ((nI 0), Y10))))))
def fn_214_J70 (l2 : Int32) (Y : Sm) : Option (Int32 × Sm) :=
  (if l2 = (nI 0) then some ((nI 1), Y) else some ((nI 0), Y))
def fn_214 (a1 : Int32) (Y : Sm) : Option (Int32 × Sm) :=
  exd (lp (fun s => fn_214_L12 s.1 s.2.1 s.2.2.1 s.2.2.2) FU (a1, (nI 0), ((gI Y.1 48 0 1) - (nI 1)), Y)) fun s9 => fn_214_J70 s9.1 s9.2
/-- BallotBusModel.cast -/
def fn_216_J18 (t0 : Int32) (Y : Sm) : Option (Int32 × Sm) :=
  bd (fn_164 t0 Y) fun v3 Y1 => (if v3 = (nI 0) then some ((nI 0), Y1) else bd (fn_171 Y1) fun _ Y4 => bd (fn_215 Y4) fun v8 Y6 => bd (fn_172 v8 Y6) fun v11 Y9 => some (v11, Y9))
def fn_216_J17 (Y : Sm) : Option (Int32 × Sm) :=
  fn_216_J18 (nI 0) Y
def fn_216 (a1 : Int32) (Y : Sm) : Option (Int32 × Sm) :=
  (if a1 < (nI 0) then fn_216_J17 Y else bd (fn_214 a1 Y) fun v14 Y12 => (if v14 = (nI 0) then fn_216_J17 Y12 else fn_216_J18 (nI 1) Y12))
/-- BallotBusModel.greater -/
def fn_169 (a0 : Int32) (a1 : Int32) (Y : Sm) : Option (Int32 × Sm) :=
  (if a0 ≤ a1 then some (a1, Y) else some (a0, Y))
/-- BallotBusModel.debtBehind -/
def fn_217 (a1 : Int32) (Y : Sm) : Option (Int32 × Sm) :=
  ck (inb ((nI 28) + a1) 718) <| ck (inb ((nI 20) + a1) 718) <| bd (fn_169 (nI 0) ((gI Y.1 48 0 5) - (gI Y.1 52 0 (ix ((nI 20) + a1)))) Y) fun v5 Y3 => some (((gI Y.1 52 0 (ix ((nI 28) + a1))) + v5), Y3)
/-- BallotBusModel.canVeto -/
def fn_218 (a1 : Int32) (a2 : Int32) (Y : Sm) : Option (Int32 × Sm) :=
  bd (fn_167 (gI Y.1 52 0 4) a2 Y) fun v3 Y1 => (if v3 = (nI 0) then bd (fn_217 a1 Y1) fun v6 Y4 => (if (gI Y4.1 48 0 6) < v6 then some ((nI 0), Y4) else some ((nI 1), Y4)) else some ((nI 0), Y1))
/-- BallotBusModel.vetoes -/
def fn_219 (a1 : Int32) (a2 : Int32) (Y : Sm) : Option (Int32 × Sm) :=
  bd (fn_217 a1 Y) fun v3 Y1 => ck (inb ((nI 28) + a1) 718) <| wr (sI Y1 52 0 (ix ((nI 28) + a1)) v3) fun Y5 => ck (inb ((nI 20) + a1) 718) <| bd (fn_169 (nI 0) ((gI Y5.1 52 0 (ix ((nI 20) + a1))) - (gI Y5.1 48 0 5)) Y5) fun v9 Y7 => wr (sI Y7 52 0 (ix ((nI 20) + a1)) v9) fun Y10 => wr (sI Y10 52 0 4 ((gI Y10.1 52 0 4) ||| ((nI 1) <<< (a2 &&& 31)))) fun Y11 => ck (inb ((nI 44) + a1) 718) <| wr (sI Y11 52 0 (ix ((nI 44) + a1)) ((gI Y11.1 52 0 (ix ((nI 44) + a1))) + (nI 1))) fun Y13 => some ((gI Y13.1 52 0 (ix ((nI 28) + a1))), Y13)
/-- BallotBusModel.veto -/
def fn_220_J22 (l1 : Int32) (l2 : Int32) (t0 : Int32) (Y : Sm) : Option (Int32 × Sm) :=
  bd (fn_164 t0 Y) fun v6 Y4 => (if v6 = (nI 0) then some ((nI 0), Y4) else bd (fn_218 l1 l2 Y4) fun v9 Y7 => bd (fn_165 v9 (nI 2) Y7) fun v12 Y10 => (if v12 = (nI 0) then some ((nI 0), Y10) else bd (fn_171 Y10) fun _ Y13 => bd (fn_219 l1 l2 Y13) fun v17 Y15 => bd (fn_172 v17 Y15) fun v20 Y18 => some (v20, Y18)))
def fn_220_J21 (l1 : Int32) (l2 : Int32) (Y : Sm) : Option (Int32 × Sm) :=
  fn_220_J22 l1 l2 (nI 0) Y
def fn_220 (a1 : Int32) (a2 : Int32) (Y : Sm) : Option (Int32 × Sm) :=
  bd (fn_208 a1 Y) fun v3 Y1 => (if v3 = (nI 0) then fn_220_J21 a1 a2 Y1 else bd (fn_209 a2 Y1) fun v23 Y21 => (if v23 = (nI 0) then fn_220_J21 a1 a2 Y21 else fn_220_J22 a1 a2 (nI 1) Y21))
/-- BallotBusModel.payBack -/
def fn_221 (a1 : Int32) (Y : Sm) : Option (Int32 × Sm) :=
  bd (fn_208 a1 Y) fun v3 Y1 => bd (fn_164 v3 Y1) fun v6 Y4 => (if v6 = (nI 0) then some ((nI 0), Y4) else bd (fn_171 Y4) fun _ Y7 => ck (inb ((nI 20) + a1) 718) <| ck (inb ((nI 28) + a1) 718) <| bd (fn_168 (gI Y7.1 52 0 (ix ((nI 20) + a1))) (gI Y7.1 52 0 (ix ((nI 28) + a1))) Y7) fun v13 Y11 => wr (sI Y11 52 0 (ix ((nI 20) + a1)) ((gI Y11.1 52 0 (ix ((nI 20) + a1))) - v13)) fun Y14 => wr (sI Y14 52 0 (ix ((nI 28) + a1)) ((gI Y14.1 52 0 (ix ((nI 28) + a1))) - v13)) fun Y15 => bd (fn_172 v13 Y15) fun v18 Y16 => some (v18, Y16))
/-- BallotBusModel.isTally -/
def fn_222 (a0 : Int32) (Y : Sm) : Option (Int32 × Sm) :=
  bd (fn_166 ((a0).toInt64) (Int64.ofNat 0) (((nI 2)).toInt64) Y) fun v3 Y1 => ck (bz v3) <| some (v3, Y1)
/-- BallotBusModel.puts -/
def fn_223 (a1 : Int32) (a2 : Int32) (Y : Sm) : Option (Int32 × Sm) :=
  bd (fn_171 Y) fun _ Y1 => ck (inb a1 718) <| wr (sI Y1 52 0 (ix a1) a2) fun Y4 => bd (fn_172 (gI Y1.1 52 0 (ix a1)) Y4) fun v7 Y5 => some (v7, Y5)
/-- BallotBusModel.setTally -/
def fn_224 (a1 : Int32) (Y : Sm) : Option (Int32 × Sm) :=
  bd (fn_222 a1 Y) fun v3 Y1 => bd (fn_164 v3 Y1) fun v6 Y4 => (if v6 = (nI 0) then some ((nI 0), Y4) else bd (fn_223 (nI 1) a1 Y4) fun v9 Y7 => some (v9, Y7))
/-- BallotBusModel.setManner -/
def fn_225 (a1 : Int32) (a2 : Int32) (Y : Sm) : Option (Int32 × Sm) :=
  bd (fn_209 a1 Y) fun v3 Y1 => bd (fn_164 v3 Y1) fun v6 Y4 => (if v6 = (nI 0) then some ((nI 0), Y4) else bd (fn_166 ((a2).toInt64) (Int64.ofNat 0) (((nI 3)).toInt64) Y4) fun v9 Y7 => bd (fn_165 v9 (nI 2) Y7) fun v12 Y10 => (if v12 = (nI 0) then some ((nI 0), Y10) else bd (fn_223 ((nI 15) + a1) a2 Y10) fun v15 Y13 => some (v15, Y13)))
/-- BallotBusModel.waiting -/
def fn_181 (Y : Sm) : Option (Int32 × Sm) :=
  (if (gI Y.1 52 0 8) = (-1 : Int32) then some ((gI Y.1 52 0 9), Y) else some (((gI Y.1 52 0 9) - (nI 1)), Y))
/-- BallotBusModel.count -/
def fn_226 (a1 : Int32) (Y : Sm) : Option (Int32 × Sm) :=
  wr (sI Y 48 0 0 (nI 0)) fun Y1 => (if a1 = (nI 0) then some ((gI Y1.1 48 0 1), Y1) else (if a1 = (nI 1) then some ((gI Y1.1 48 0 2), Y1) else (if a1 = (nI 2) then some ((gI Y1.1 52 0 0), Y1) else (if a1 = (nI 3) then some ((gI Y1.1 52 0 1), Y1) else (if a1 = (nI 4) then some ((gI Y1.1 48 0 3), Y1) else (if a1 = (nI 5) then some ((gI Y1.1 48 0 4), Y1) else (if a1 = (nI 6) then some ((gI Y1.1 48 0 5), Y1) else (if a1 = (nI 7) then some ((gI Y1.1 48 0 6), Y1) else (if a1 = (nI 8) then some ((gI Y1.1 48 0 7), Y1) else (if a1 = (nI 9) then bd (fn_181 Y1) fun v20 Y18 => some (v20, Y18) else (if a1 = (nI 10) then some ((gI Y1.1 52 0 7), Y1) else (if a1 = (nI 11) then some ((gI Y1.1 52 0 6), Y1) else (if a1 = (nI 12) then some ((gI Y1.1 52 0 2), Y1) else (if a1 = (nI 13) then some ((gI Y1.1 52 0 4), Y1) else (if a1 = (nI 14) then some ((gI Y1.1 52 0 5), Y1) else (if a1 = (nI 15) then some ((gI Y1.1 48 0 17), Y1) else some ((-1 : Int32), Y1)))))))))))))))))
/-- BallotBusModel.waitingOf -/
def fn_227_L4 (l1 : Int32) (l2 : Int32) (l3 : Int32) (Y : Sm) : Option ((Int32 × Int32 × Sm) ⊕ (Int32 × Sm)) :=
  (if (gI Y.1 52 0 9) ≤ l3 then some (.inr (l2, Y)) else bd (fn_178 l3 (nI 1) Y) fun v6 Y4 => (if v6 = l1 then bd (fn_180 l3 Y4) fun v9 Y7 => (if v9 = (nI 0) then some (.inl (l2, (l3 + (nI 1)), Y7)) else some (.inl ((l2 + (nI 1)), (l3 + (nI 1)), Y7))) else some (.inl (l2, (l3 + (nI 1)), Y4))))
def fn_227 (a1 : Int32) (Y : Sm) : Option (Int32 × Sm) :=
  lp (fun s => fn_227_L4 a1 s.1 s.2.1 s.2.2) FU ((nI 0), (nI 0), Y)
/-- BallotBusModel.asker -/
def fn_228_J26 (l1 : Int32) (l2 : Int32) (t0 : Int32) (Y : Sm) : Option (Int32 × Sm) :=
  bd (fn_164 t0 Y) fun v6 Y4 => (if v6 = (nI 0) then some ((nI 0), Y4) else (if l2 = (nI 0) then ck (inb ((nI 20) + l1) 718) <| some ((gI Y4.1 52 0 (ix ((nI 20) + l1))), Y4) else (if l2 = (nI 1) then ck (inb ((nI 28) + l1) 718) <| some ((gI Y4.1 52 0 (ix ((nI 28) + l1))), Y4) else (if l2 = (nI 2) then ck (inb l1 8) <| some ((gI Y4.1 49 0 (ix l1)), Y4) else (if l2 = (nI 3) then ck (inb ((nI 36) + l1) 718) <| some ((gI Y4.1 52 0 (ix ((nI 36) + l1))), Y4) else (if l2 = (nI 4) then bd (fn_189 l1 Y4) fun v23 Y21 => (if v23 = (nI 0) then some ((nI 0), Y21) else some ((nI 1), Y21)) else (if l2 = (nI 5) then (if (gI Y4.1 52 0 2) = l1 then (if (gI Y4.1 52 0 3) = (nI 1) then some ((nI 1), Y4) else some ((nI 0), Y4)) else some ((nI 0), Y4)) else (if l2 = (nI 6) then bd (fn_227 l1 Y4) fun v26 Y24 => some (v26, Y24) else (if l2 = (nI 7) then ck (inb ((nI 52) + l1) 718) <| some ((gI Y4.1 52 0 (ix ((nI 52) + l1))), Y4) else (if l2 = (nI 8) then ck (inb ((nI 60) + l1) 718) <| some ((gI Y4.1 52 0 (ix ((nI 60) + l1))), Y4) else ck (inb ((nI 44) + l1) 718) <| some ((gI Y4.1 52 0 (ix ((nI 44) + l1))), Y4)))))))))))
def fn_228_J25 (l1 : Int32) (l2 : Int32) (Y : Sm) : Option (Int32 × Sm) :=
  fn_228_J26 l1 l2 (nI 0) Y
def fn_228 (a1 : Int32) (a2 : Int32) (Y : Sm) : Option (Int32 × Sm) :=
  bd (fn_208 a1 Y) fun v3 Y1 => (if v3 = (nI 0) then fn_228_J25 a1 a2 Y1 else bd (fn_166 ((a2).toInt64) (Int64.ofNat 0) (((nI 9)).toInt64) Y1) fun v31 Y29 => (if v31 = (nI 0) then fn_228_J25 a1 a2 Y29 else fn_228_J26 a1 a2 (nI 1) Y29))
/-- BallotBusModel.serialAt -/
def fn_232 (a1 : Int32) (Y : Sm) : Option (Int32 × Sm) :=
  (if a1 = (-1 : Int32) then some ((-1 : Int32), Y) else bd (fn_178 a1 (nI 0) Y) fun v3 Y1 => some (v3, Y1))
/-- BallotBusModel.waitingIn -/
def fn_229_L4 (l1 : Int32) (l2 : Int32) (l3 : Int32) (Y : Sm) : Option ((Int32 × Int32 × Sm) ⊕ (Int32 × Sm)) :=
  (if (gI Y.1 52 0 9) ≤ l3 then some (.inr (l2, Y)) else bd (fn_186 l3 l1 Y) fun v6 Y4 => (if v6 = (nI 0) then some (.inl (l2, (l3 + (nI 1)), Y4)) else some (.inl ((l2 + (nI 1)), (l3 + (nI 1)), Y4))))
def fn_229 (a1 : Int32) (Y : Sm) : Option (Int32 × Sm) :=
  lp (fun s => fn_229_L4 a1 s.1 s.2.1 s.2.2) FU ((nI 0), (nI 0), Y)
/-- BallotBusModel.placeInOrder -/
def fn_230_L2 (l1 : Int32) (l2 : Int32) (Y : Sm) : Option ((Int32 × Sm) ⊕ (Int32 × Sm)) :=
  ck (inb ((nI 10) + l2) 718) <| (if (gI Y.1 52 0 (ix ((nI 10) + l2))) = l1 then some (.inr (l2, Y)) else some (.inl ((l2 + (nI 1)), Y)))
def fn_230 (a1 : Int32) (Y : Sm) : Option (Int32 × Sm) :=
  lp (fun s => fn_230_L2 a1 s.1 s.2) FU ((nI 0), Y)
/-- BallotBusModel.kind -/
def fn_231_J26 (l1 : Int32) (l2 : Int32) (t0 : Int32) (Y : Sm) : Option (Int32 × Sm) :=
  bd (fn_164 t0 Y) fun v6 Y4 => (if v6 = (nI 0) then some ((nI 0), Y4) else (if l2 = (nI 0) then ck (inb ((nI 15) + l1) 718) <| some ((gI Y4.1 52 0 (ix ((nI 15) + l1))), Y4) else (if l2 = (nI 1) then bd (fn_229 l1 Y4) fun v21 Y19 => some (v21, Y19) else (if l2 = (nI 2) then ck (inb ((nI 68) + l1) 718) <| some ((gI Y4.1 52 0 (ix ((nI 68) + l1))), Y4) else (if l2 = (nI 3) then bd (fn_230 l1 Y4) fun v25 Y23 => some (v25, Y23) else (if l2 = (nI 4) then bd (fn_167 (gI Y4.1 52 0 4) l1 Y4) fun v28 Y26 => (if v28 = (nI 0) then some ((nI 0), Y26) else some ((nI 1), Y26)) else bd (fn_188 l1 (nI 0) Y4) fun v9 Y7 => bd (fn_232 v9 Y7) fun v12 Y10 => some (v12, Y10)))))))
def fn_231_J25 (l1 : Int32) (l2 : Int32) (Y : Sm) : Option (Int32 × Sm) :=
  fn_231_J26 l1 l2 (nI 0) Y
def fn_231 (a1 : Int32) (a2 : Int32) (Y : Sm) : Option (Int32 × Sm) :=
  bd (fn_209 a1 Y) fun v3 Y1 => (if v3 = (nI 0) then fn_231_J25 a1 a2 Y1 else bd (fn_166 ((a2).toInt64) (Int64.ofNat 0) (((nI 5)).toInt64) Y1) fun v31 Y29 => (if v31 = (nI 0) then fn_231_J25 a1 a2 Y29 else fn_231_J26 a1 a2 (nI 1) Y29))
/-- BallotBusModel.ballot -/
def fn_233_J22 (l1 : Int32) (l2 : Int32) (t0 : Int32) (Y : Sm) : Option (Int32 × Sm) :=
  bd (fn_164 t0 Y) fun v6 Y4 => (if v6 = (nI 0) then some ((nI 0), Y4) else bd (fn_191 l1 l2 Y4) fun v9 Y7 => some (v9, Y7))
def fn_233_J21 (l1 : Int32) (l2 : Int32) (Y : Sm) : Option (Int32 × Sm) :=
  fn_233_J22 l1 l2 (nI 0) Y
def fn_233 (a1 : Int32) (a2 : Int32) (Y : Sm) : Option (Int32 × Sm) :=
  bd (fn_208 a1 Y) fun v3 Y1 => (if v3 = (nI 0) then fn_233_J21 a1 a2 Y1 else bd (fn_209 a2 Y1) fun v12 Y10 => (if v12 = (nI 0) then fn_233_J21 a1 a2 Y10 else fn_233_J22 a1 a2 (nI 1) Y10))
/-- BallotBusModel.order -/
def fn_234 (a1 : Int32) (Y : Sm) : Option (Int32 × Sm) :=
  bd (fn_209 a1 Y) fun v3 Y1 => bd (fn_164 v3 Y1) fun v6 Y4 => (if v6 = (nI 0) then some ((nI 0), Y4) else ck (inb ((nI 10) + a1) 718) <| some ((gI Y4.1 52 0 (ix ((nI 10) + a1))), Y4))
/-- BallotBusModel.request -/
def fn_235_J33 (l2 : Int32) (l3 : Int32) (t0 : Int32) (Y : Sm) : Option (Int32 × Sm) :=
  bd (fn_165 t0 (nI 2) Y) fun v12 Y10 => (if v12 = (nI 0) then some ((nI 0), Y10) else bd (fn_178 l3 (l2 + (nI 1)) Y10) fun v15 Y13 => some (v15, Y13))
def fn_235 (a1 : Int32) (a2 : Int32) (Y : Sm) : Option (Int32 × Sm) :=
  bd (fn_179 a1 Y) fun v3 Y1 => bd (fn_166 ((a2).toInt64) (Int64.ofNat 0) (((nI 4)).toInt64) Y1) fun v6 Y4 => bd (fn_164 v6 Y4) fun v9 Y7 => (if v9 = (nI 0) then some ((nI 0), Y7) else (if v3 = (-1 : Int32) then fn_235_J33 a2 v3 (nI 0) Y7 else fn_235_J33 a2 v3 (nI 1) Y7))
/-- BallotBusModel.line -/
def fn_236 (a1 : Int32) (a2 : Int32) (Y : Sm) : Option (Int32 × Sm) :=
  bd (fn_209 a1 Y) fun v3 Y1 => bd (fn_164 v3 Y1) fun v6 Y4 => (if v6 = (nI 0) then some ((nI 0), Y4) else bd (fn_229 a1 Y4) fun v9 Y7 => bd (fn_166 ((a2).toInt64) (Int64.ofNat 0) ((v9 - (nI 1)).toInt64) Y7) fun v12 Y10 => bd (fn_165 v12 (nI 2) Y10) fun v15 Y13 => (if v15 = (nI 0) then some ((nI 0), Y13) else bd (fn_188 a1 a2 Y13) fun v18 Y16 => bd (fn_178 v18 (nI 0) Y16) fun v21 Y19 => some (v21, Y19)))
/-- BallotBusModel.progress -/
def fn_237 (Y : Sm) : Option (Int32 × Sm) :=
  wr (sI Y 48 0 0 (nI 0)) fun Y1 => some ((gI Y1.1 52 0 8), Y1)
/-- BallotBusModel.answer -/
def fn_238_J45 (l1 : Int32) (l2 : Int32) (t0 : Int32) (Y : Sm) : Option (Int32 × Sm) :=
  bd (fn_165 t0 (nI 2) Y) fun v12 Y10 => (if v12 = (nI 0) then some ((nI 0), Y10) else ck (inb (((nI 358) + ((nI 6) * ((((gI Y10.1 52 0 7) - (nI 1)) - l1) - (((gI Y10.1 52 0 7) - (nI 1)) - l1) / (nI 60) * (nI 60)))) + l2) 718) <| some ((gI Y10.1 52 0 (ix (((nI 358) + ((nI 6) * ((((gI Y10.1 52 0 7) - (nI 1)) - l1) - (((gI Y10.1 52 0 7) - (nI 1)) - l1) / (nI 60) * (nI 60)))) + l2))), Y10))
def fn_238_J44 (l1 : Int32) (l2 : Int32) (Y : Sm) : Option (Int32 × Sm) :=
  fn_238_J45 l1 l2 (nI 0) Y
def fn_238 (a1 : Int32) (a2 : Int32) (Y : Sm) : Option (Int32 × Sm) :=
  bd (fn_166 ((a2).toInt64) (Int64.ofNat 0) (((nI 5)).toInt64) Y) fun v3 Y1 => bd (fn_164 v3 Y1) fun v6 Y4 => (if v6 = (nI 0) then some ((nI 0), Y4) else bd (fn_166 ((a1).toInt64) (Int64.ofNat 0) (((nI 59)).toInt64) Y4) fun v9 Y7 => (if v9 = (nI 0) then fn_238_J44 a1 a2 Y7 else (if (gI Y7.1 52 0 7) ≤ a1 then fn_238_J44 a1 a2 Y7 else fn_238_J45 a1 a2 (nI 1) Y7)))
/-- BallotBusModel.points -/
def fn_239 (a1 : Int32) (Y : Sm) : Option (Int32 × Sm) :=
  bd (fn_209 a1 Y) fun v3 Y1 => bd (fn_164 v3 Y1) fun v6 Y4 => (if v6 = (nI 0) then some ((nI 0), Y4) else bd (fn_193 a1 Y4) fun v9 Y7 => some (v9, Y7))
/-- BallotBusModel.firsts -/
def fn_240_J22 (l1 : Int32) (l2 : Int32) (t0 : Int32) (Y : Sm) : Option (Int32 × Sm) :=
  bd (fn_164 t0 Y) fun v6 Y4 => (if v6 = (nI 0) then some ((nI 0), Y4) else bd (fn_194 l1 l2 Y4) fun v9 Y7 => some (v9, Y7))
def fn_240_J21 (l1 : Int32) (l2 : Int32) (Y : Sm) : Option (Int32 × Sm) :=
  fn_240_J22 l1 l2 (nI 0) Y
def fn_240 (a1 : Int32) (a2 : Int32) (Y : Sm) : Option (Int32 × Sm) :=
  bd (fn_209 a1 Y) fun v3 Y1 => (if v3 = (nI 0) then fn_240_J21 a1 a2 Y1 else bd (fn_209 a2 Y1) fun v12 Y10 => (if v12 = (nI 0) then fn_240_J21 a1 a2 Y10 else fn_240_J22 a1 a2 (nI 1) Y10))
/-- BallotBusModel.beats -/
def fn_241_J22 (l1 : Int32) (l2 : Int32) (t0 : Int32) (Y : Sm) : Option (Int32 × Sm) :=
  bd (fn_164 t0 Y) fun v6 Y4 => (if v6 = (nI 0) then some ((nI 0), Y4) else bd (fn_196 l1 l2 Y4) fun v9 Y7 => (if v9 = (nI 0) then some ((nI 0), Y7) else some ((nI 1), Y7)))
def fn_241_J21 (l1 : Int32) (l2 : Int32) (Y : Sm) : Option (Int32 × Sm) :=
  fn_241_J22 l1 l2 (nI 0) Y
def fn_241 (a1 : Int32) (a2 : Int32) (Y : Sm) : Option (Int32 × Sm) :=
  bd (fn_209 a1 Y) fun v3 Y1 => (if v3 = (nI 0) then fn_241_J21 a1 a2 Y1 else bd (fn_209 a2 Y1) fun v12 Y10 => (if v12 = (nI 0) then fn_241_J21 a1 a2 Y10 else fn_241_J22 a1 a2 (nI 1) Y10))
/-- BallotBusModel.wins -/
def fn_242 (a1 : Int32) (Y : Sm) : Option (Int32 × Sm) :=
  bd (fn_209 a1 Y) fun v3 Y1 => bd (fn_164 v3 Y1) fun v6 Y4 => (if v6 = (nI 0) then some ((nI 0), Y4) else bd (fn_197 a1 Y4) fun v9 Y7 => some (v9, Y7))
/-- BallotBusModel.champion -/
def fn_243_L16 (l1 : Int32) (Y : Sm) : Option ((Int32 × Sm) ⊕ (Int32 × Sm)) :=
  (if (gI Y.1 48 0 1) ≤ l1 then some (.inr ((-1 : Int32), Y)) else bd (fn_197 l1 Y) fun v10 Y8 => (if v10 = ((gI Y8.1 48 0 1) - (nI 1)) then some (.inr (l1, Y8)) else some (.inl ((l1 + (nI 1)), Y8))))
def fn_243 (Y : Sm) : Option (Int32 × Sm) :=
  wr (sI Y 48 0 0 (nI 0)) fun Y1 => bd (fn_190 Y1) fun v4 Y2 => (if v4 = (nI 0) then some ((-1 : Int32), Y2) else lp (fun s => fn_243_L16 s.1 s.2) FU ((nI 0), Y2))
/-- BallotBusModel.voted -/
def fn_244 (a1 : Int32) (a2 : Int32) (Y : Sm) : Option (Int32 × Sm) :=
  bd (fn_209 a2 Y) fun v3 Y1 => bd (fn_164 v3 Y1) fun v6 Y4 => (if v6 = (nI 0) then some ((nI 0), Y4) else bd (fn_222 a1 Y4) fun v9 Y7 => bd (fn_165 v9 (nI 2) Y7) fun v12 Y10 => (if v12 = (nI 0) then some ((nI 0), Y10) else bd (fn_199 a1 Y10) fun _ Y13 => ck (inb a2 5) <| some ((gI Y13.1 58 0 (ix a2)), Y13)))
/-- BallotBusModel.votes -/
def fn_245_L9 (l1 : Int32) (l2 : Int32) (Y : Sm) : Option ((Int32 × Int32 × Sm) ⊕ (Int32 × Sm)) :=
  (if (gI Y.1 48 0 2) ≤ l2 then some (.inr (l1, Y)) else bd (fn_189 l2 Y) fun v7 Y5 => (if v7 = (nI 0) then some (.inl (l1, (l2 + (nI 1)), Y5)) else ck (inb l2 8) <| some (.inl ((l1 + (gI Y5.1 49 0 (ix l2))), (l2 + (nI 1)), Y5))))
def fn_245 (Y : Sm) : Option (Int32 × Sm) :=
  wr (sI Y 48 0 0 (nI 0)) fun Y1 => lp (fun s => fn_245_L9 s.1 s.2.1 s.2.2) FU ((nI 0), (nI 0), Y1)
/-- BallotBusModel.placeInOutcome -/
def fn_246_L2 (l1 : Int32) (l2 : Int32) (Y : Sm) : Option ((Int32 × Sm) ⊕ (Int32 × Sm)) :=
  ck (inb l2 5) <| (if (gI Y.1 58 0 (ix l2)) = l1 then some (.inr (l2, Y)) else some (.inl ((l2 + (nI 1)), Y)))
def fn_246 (a1 : Int32) (Y : Sm) : Option (Int32 × Sm) :=
  lp (fun s => fn_246_L2 a1 s.1 s.2) FU ((nI 0), Y)
/-- BallotBusModel.differences -/
def fn_247_L35 (l2 : Int32) (l3 : Int32) (Y : Sm) : Option ((Int32 × Sm) ⊕ ((Sm) ⊕ (Int32 × Sm))) :=
  (if (gI Y.1 48 0 1) ≤ l3 then some (.inr (.inl (Y))) else ck (inb l3 5) <| wr (sI Y 59 0 (ix l3) (gI Y.1 58 0 (ix l3))) fun Y16 => some (.inl ((l3 + (nI 1)), Y16)))
def fn_247_L86_d1 (l4 : Int32) (l3 : Int32) (l5 : Int32) (Y : Sm) : Option ((Int32 × Int32 × Sm) ⊕ ((Int32 × Int32 × Sm) ⊕ (Int32 × Sm))) :=
  (if (gI Y.1 48 0 1) ≤ l5 then some (.inr (.inl (l3, (l4 + (nI 1)), Y))) else ck (inb l4 5) <| bd (fn_246 (gI Y.1 59 0 (ix l4)) Y) fun v28 Y26 => ck (inb l5 5) <| bd (fn_246 (gI Y26.1 59 0 (ix l5)) Y26) fun v32 Y30 => (if v28 ≤ v32 then some (.inl (l3, (l5 + (nI 1)), Y30)) else some (.inl ((l3 + (nI 1)), (l5 + (nI 1)), Y30))))
def fn_247_L71 (l3 : Int32) (l4 : Int32) (Y : Sm) : Option ((Int32 × Int32 × Sm) ⊕ (Int32 × Sm)) :=
  (if (gI Y.1 48 0 1) ≤ l4 then some (.inr (l3, Y)) else lp (fun s => fn_247_L86_d1 l4 s.1 s.2.1 s.2.2) FU (l3, (l4 + (nI 1)), Y))
def fn_247_J61 (l2 : Int32) (Y : Sm) : Option (Int32 × Sm) :=
  bd (fn_199 l2 Y) fun _ Y17 => lp (fun s => fn_247_L71 s.1 s.2.1 s.2.2) FU ((nI 0), (nI 0), Y17)
def fn_247_J20 (l1 : Int32) (l2 : Int32) (t0 : Int32) (Y : Sm) : Option (Int32 × Sm) :=
  bd (fn_164 t0 Y) fun v6 Y4 => (if v6 = (nI 0) then some ((nI 0), Y4) else bd (fn_199 l1 Y4) fun _ Y7 => exd (lp (fun s => fn_247_L35 l2 s.1 s.2) FU ((nI 0), Y7)) fun s9 => fn_247_J61 l2 s9)
def fn_247_J19 (l1 : Int32) (l2 : Int32) (Y : Sm) : Option (Int32 × Sm) :=
  fn_247_J20 l1 l2 (nI 0) Y
def fn_247 (a1 : Int32) (a2 : Int32) (Y : Sm) : Option (Int32 × Sm) :=
  bd (fn_222 a1 Y) fun v3 Y1 => (if v3 = (nI 0) then fn_247_J19 a1 a2 Y1 else bd (fn_222 a2 Y1) fun v38 Y36 => (if v38 = (nI 0) then fn_247_J19 a1 a2 Y36 else fn_247_J20 a1 a2 (nI 1) Y36))
/-- BallotBusModel.isDecisive -/
def fn_248_L34 (l1 : Int32) (l2 : Int32) (Y : Sm) : Option ((Int32 × Sm) ⊕ ((Sm) ⊕ (Int32 × Sm))) :=
  (if (gI Y.1 48 0 1) ≤ l2 then some (.inr (.inl (Y))) else ck (inb l2 5) <| wr (sI Y 59 0 (ix l2) (gI Y.1 58 0 (ix l2))) fun Y19 => some (.inl ((l2 + (nI 1)), Y19)))
def fn_248_L82 (l2 : Int32) (Y : Sm) : Option ((Int32 × Sm) ⊕ (Int32 × Sm)) :=
  (if (gI Y.1 48 0 1) ≤ l2 then some (.inr ((nI 0), Y)) else ck (inb l2 5) <| (if (gI Y.1 58 0 (ix l2)) = (gI Y.1 59 0 (ix l2)) then some (.inl ((l2 + (nI 1)), Y)) else some (.inr ((nI 1), Y))))
def fn_248_J60 (l1 : Int32) (Y : Sm) : Option (Int32 × Sm) :=
  wr (sI Y 48 0 19 l1) fun Y20 => bd (fn_199 (gI Y20.1 52 0 1) Y20) fun _ Y21 => wr (sI Y21 48 0 19 (-1 : Int32)) fun Y23 => lp (fun s => fn_248_L82 s.1 s.2) FU ((nI 0), Y23)
def fn_248 (a1 : Int32) (Y : Sm) : Option (Int32 × Sm) :=
  bd (fn_208 a1 Y) fun v3 Y1 => bd (fn_164 v3 Y1) fun v6 Y4 => (if v6 = (nI 0) then some ((nI 0), Y4) else bd (fn_189 a1 Y4) fun v9 Y7 => (if v9 = (nI 0) then some ((nI 0), Y7) else bd (fn_199 (gI Y7.1 52 0 1) Y7) fun _ Y10 => exd (lp (fun s => fn_248_L34 a1 s.1 s.2) FU ((nI 0), Y10)) fun s9 => fn_248_J60 a1 s9))
/-- BallotBusModel.pairsApart -/
def fn_249_L17_d1 (l1 : Int32) (l3 : Int32) (l2 : Int32) (l4 : Int32) (Y : Sm) : Option ((Int32 × Int32 × Sm) ⊕ ((Int32 × Int32 × Sm) ⊕ (Int32 × Sm))) :=
  (if (gI Y.1 48 0 1) ≤ l4 then some (.inr (.inl (l2, (l3 + (nI 1)), Y))) else ck (inb l3 5) <| bd (fn_192 l1 (gI Y.1 58 0 (ix l3)) Y) fun v10 Y8 => ck (inb l4 5) <| bd (fn_192 l1 (gI Y8.1 58 0 (ix l4)) Y8) fun v14 Y12 => (if v10 ≤ v14 then some (.inl (l2, (l4 + (nI 1)), Y12)) else some (.inl ((l2 + (nI 1)), (l4 + (nI 1)), Y12))))
def fn_249_L4 (l1 : Int32) (l2 : Int32) (l3 : Int32) (Y : Sm) : Option ((Int32 × Int32 × Sm) ⊕ (Int32 × Sm)) :=
  (if (gI Y.1 48 0 1) ≤ l3 then some (.inr (l2, Y)) else lp (fun s => fn_249_L17_d1 l1 l3 s.1 s.2.1 s.2.2) FU (l2, (l3 + (nI 1)), Y))
def fn_249 (a1 : Int32) (Y : Sm) : Option (Int32 × Sm) :=
  lp (fun s => fn_249_L4 a1 s.1 s.2.1 s.2.2) FU ((nI 0), (nI 0), Y)
/-- BallotBusModel.distance -/
def fn_250_L16 (l1 : Int32) (l2 : Int32) (Y : Sm) : Option ((Int32 × Sm) ⊕ (Int32 × Sm)) :=
  (if (gI Y.1 48 0 1) ≤ l2 then bd (fn_249 l1 Y) fun v12 Y10 => some (.inr (v12, Y10)) else ck (inb ((nI 10) + l2) 718) <| ck (inb l2 5) <| wr (sI Y 58 0 (ix l2) (gI Y.1 52 0 (ix ((nI 10) + l2)))) fun Y15 => some (.inl ((l2 + (nI 1)), Y15)))
def fn_250 (a1 : Int32) (Y : Sm) : Option (Int32 × Sm) :=
  bd (fn_208 a1 Y) fun v3 Y1 => bd (fn_164 v3 Y1) fun v6 Y4 => (if v6 = (nI 0) then some ((nI 0), Y4) else lp (fun s => fn_250_L16 a1 s.1 s.2) FU ((nI 0), Y4))
/-- BallotBusModel.codes -/
def fn_252_L4 (l1 : Int32) (l2 : Int32) (Y : Sm) : Option ((Int32 × Int32 × Sm) ⊕ (Int32 × Sm)) :=
  (if (gI Y.1 48 0 1) ≤ l2 then some (.inr (l1, Y)) else some (.inl ((l1 * (nI 10)), (l2 + (nI 1)), Y)))
def fn_252 (Y : Sm) : Option (Int32 × Sm) :=
  lp (fun s => fn_252_L4 s.1 s.2.1 s.2.2) FU ((nI 1), (nI 0), Y)
/-- BallotBusModel.sumApart -/
def fn_251_L4 (l1 : Int32) (l2 : Int32) (Y : Sm) : Option ((Int32 × Int32 × Sm) ⊕ (Int32 × Sm)) :=
  (if (gI Y.1 48 0 2) ≤ l2 then some (.inr (l1, Y)) else bd (fn_189 l2 Y) fun v6 Y4 => (if v6 = (nI 0) then some (.inl (l1, (l2 + (nI 1)), Y4)) else ck (inb l2 8) <| bd (fn_249 l2 Y4) fun v10 Y8 => some (.inl ((l1 + ((gI Y4.1 49 0 (ix l2)) * v10)), (l2 + (nI 1)), Y8))))
def fn_251 (Y : Sm) : Option (Int32 × Sm) :=
  lp (fun s => fn_251_L4 s.1 s.2.1 s.2.2) FU ((nI 0), (nI 0), Y)
/-- BallotBusModel.middle -/
def fn_253_L21 (l1 : Int32) (l2 : Int32) (l3 : Int32) (l4 : Int32) (Y : Sm) : Option ((Int32 × Int32 × Int32 × Sm) ⊕ ((Int32 × Sm) ⊕ (Int32 × Sm))) :=
  bd (fn_252 Y) fun v15 Y13 => (if v15 ≤ l4 then some (.inr (.inl (l2, Y13))) else bd (fn_214 l4 Y13) fun v18 Y16 => (if v18 = (nI 0) then some (.inl (l2, l3, (l4 + (nI 1)), Y16)) else (if l2 = (-1 : Int32) then bd (fn_251 Y16) fun v21 Y19 => some (.inl (l4, v21, (l4 + (nI 1)), Y19)) else bd (fn_251 Y16) fun v24 Y22 => (if v24 < l3 then bd (fn_251 Y22) fun v27 Y25 => some (.inl (l4, v27, (l4 + (nI 1)), Y25)) else some (.inl (l2, l3, (l4 + (nI 1)), Y22))))))
def fn_253_J69 (l1 : Int32) (l2 : Int32) (Y : Sm) : Option (Int32 × Sm) :=
  bd (fn_214 l2 Y) fun v30 Y28 => ck (inb l1 5) <| some ((gI Y28.1 58 0 (ix l1)), Y28)
def fn_253 (a1 : Int32) (Y : Sm) : Option (Int32 × Sm) :=
  bd (fn_209 a1 Y) fun v3 Y1 => bd (fn_164 v3 Y1) fun v6 Y4 => (if v6 = (nI 0) then some ((nI 0), Y4) else exd (lp (fun s => fn_253_L21 a1 s.1 s.2.1 s.2.2.1 s.2.2.2) FU ((-1 : Int32), (nI 0), (nI 0), Y4)) fun s9 => fn_253_J69 a1 s9.1 s9.2)
/-- BallotBusModel.meanWait -/
def fn_254 (a1 : Int32) (Y : Sm) : Option (UInt64 × Sm) :=
  bd (fn_209 a1 Y) fun v3 Y1 => bd (fn_164 v3 Y1) fun v6 Y4 => (if v6 = (nI 0) then some (FP.dconst0, Y4) else ck (inb ((nI 68) + a1) 718) <| (if (gI Y4.1 52 0 (ix ((nI 68) + a1))) = (nI 0) then some (FP.dconst0, Y4) else ck (inb ((nI 73) + a1) 718) <| ck (nn64 (FP.ddiv (FP.i2d (gI Y4.1 52 0 (ix ((nI 73) + a1)))) (FP.i2d (gI Y4.1 52 0 (ix ((nI 68) + a1)))))) <| some ((FP.ddiv (FP.i2d (gI Y4.1 52 0 (ix ((nI 73) + a1)))) (FP.i2d (gI Y4.1 52 0 (ix ((nI 68) + a1))))), Y4)))
/-- BallotBusModel.share -/
def fn_255_L18 (l1 : Int32) (l2 : Int32) (l3 : Int32) (Y : Sm) : Option ((Int32 × Int32 × Sm) ⊕ ((Int32 × Sm) ⊕ (UInt32 × Sm))) :=
  (if (gI Y.1 48 0 2) ≤ l3 then some (.inr (.inl (l2, Y))) else ck (inb ((nI 60) + l3) 718) <| some (.inl ((l2 + (gI Y.1 52 0 (ix ((nI 60) + l3)))), (l3 + (nI 1)), Y)))
def fn_255_J44 (l1 : Int32) (l2 : Int32) (Y : Sm) : Option (UInt32 × Sm) :=
  (if l2 = (nI 0) then some (FP.fconst0, Y) else ck (inb ((nI 60) + l1) 718) <| ck (nn32 (FP.fdiv (FP.i2f (gI Y.1 52 0 (ix ((nI 60) + l1)))) (FP.i2f l2))) <| some ((FP.fdiv (FP.i2f (gI Y.1 52 0 (ix ((nI 60) + l1)))) (FP.i2f l2)), Y))
def fn_255 (a1 : Int32) (Y : Sm) : Option (UInt32 × Sm) :=
  bd (fn_208 a1 Y) fun v3 Y1 => bd (fn_164 v3 Y1) fun v6 Y4 => (if v6 = (nI 0) then some (FP.fconst0, Y4) else exd (lp (fun s => fn_255_L18 a1 s.1 s.2.1 s.2.2) FU ((nI 0), (nI 0), Y4)) fun s9 => fn_255_J44 a1 s9.1 s9.2)
/-- BallotBusModel.debts -/
def fn_256_L9 (l1 : Int32) (l2 : Int32) (Y : Sm) : Option ((Int32 × Int32 × Sm) ⊕ (Int32 × Sm)) :=
  (if (gI Y.1 48 0 2) ≤ l2 then some (.inr (l1, Y)) else ck (inb ((nI 28) + l2) 718) <| some (.inl ((l1 + (gI Y.1 52 0 (ix ((nI 28) + l2)))), (l2 + (nI 1)), Y)))
def fn_256 (Y : Sm) : Option (Int32 × Sm) :=
  wr (sI Y 48 0 0 (nI 0)) fun Y1 => lp (fun s => fn_256_L9 s.1 s.2.1 s.2.2) FU ((nI 0), (nI 0), Y1)
/-- BallotBusModel.worthOf -/
def fn_257 (a1 : Int32) (Y : Sm) : Option (Int32 × Sm) :=
  ck (inb ((nI 20) + a1) 718) <| ck (inb ((nI 28) + a1) 718) <| some (((gI Y.1 52 0 (ix ((nI 20) + a1))) - (gI Y.1 52 0 (ix ((nI 28) + a1)))), Y)
/-- BallotBusModel.richest -/
def fn_258_L9 (l1 : Int32) (l2 : Int32) (Y : Sm) : Option ((Int32 × Int32 × Sm) ⊕ (Int32 × Sm)) :=
  (if (gI Y.1 48 0 2) ≤ l2 then some (.inr (l1, Y)) else bd (fn_257 l2 Y) fun v7 Y5 => bd (fn_257 l1 Y5) fun v10 Y8 => (if v7 ≤ v10 then some (.inl (l1, (l2 + (nI 1)), Y8)) else some (.inl (l2, (l2 + (nI 1)), Y8))))
def fn_258 (Y : Sm) : Option (Int32 × Sm) :=
  wr (sI Y 48 0 0 (nI 0)) fun Y1 => lp (fun s => fn_258_L9 s.1 s.2.1 s.2.2) FU ((nI 0), (nI 1), Y1)
/-- BallotBusModel.copies -/
def fn_170_52_55_L2 (l2 : Int32) (Y : Sm) : Option ((Int32 × Sm) ⊕ (Unit × Sm)) :=
  (if (nI 718) ≤ l2 then some (.inr ((), Y)) else ck (inb l2 718) <| wr (sI Y 55 0 (ix l2) (gI Y.1 52 0 (ix l2))) fun Y5 => some (.inl ((l2 + (nI 1)), Y5)))
def fn_170_52_55 (Y : Sm) : Option (Unit × Sm) :=
  lp (fun s => fn_170_52_55_L2 s.1 s.2) FU ((nI 0), Y)
/-- BallotBusModel.tries -/
def fn_176 (Y : Sm) : Option (Unit × Sm) :=
  bd (fn_170_52_55 Y) fun _ Y1 => some ((), Y1)
/-- BallotBusModel.copies -/
def fn_170_55_52_L2 (l2 : Int32) (Y : Sm) : Option ((Int32 × Sm) ⊕ (Unit × Sm)) :=
  (if (nI 718) ≤ l2 then some (.inr ((), Y)) else ck (inb l2 718) <| wr (sI Y 52 0 (ix l2) (gI Y.1 55 0 (ix l2))) fun Y5 => some (.inl ((l2 + (nI 1)), Y5)))
def fn_170_55_52 (Y : Sm) : Option (Unit × Sm) :=
  lp (fun s => fn_170_55_52_L2 s.1 s.2) FU ((nI 0), Y)
/-- BallotBusModel.laysBack -/
def fn_177 (a1 : Int32) (Y : Sm) : Option (Int32 × Sm) :=
  bd (fn_170_55_52 Y) fun _ Y1 => some (a1, Y1)
/-- BallotBusModel.answeredIn -/
def fn_259_L41 (l1 : Int32) (l2 : Int32) (l3 : Int32) (Y : Sm) : Option ((Int32 × Sm) ⊕ ((Int32 × Sm) ⊕ (Int32 × Sm))) :=
  (if l2 ≤ l3 then some (.inr (.inl (l3, Y))) else bd (fn_179 l1 Y) fun v23 Y21 => (if v23 = (-1 : Int32) then some (.inr (.inl (l3, Y21))) else bd (fn_205 Y21) fun _ Y24 => some (.inl ((l3 + (nI 1)), Y24))))
def fn_259_J80 (l3 : Int32) (t0 : Int32) (Y : Sm) : Option (Int32 × Sm) :=
  (if t0 = (nI 0) then bd (fn_177 l3 Y) fun v31 Y29 => some (v31, Y29) else bd (fn_177 (-1 : Int32) Y) fun v34 Y32 => some (v34, Y32))
def fn_259_J66 (l1 : Int32) (l3 : Int32) (Y : Sm) : Option (Int32 × Sm) :=
  bd (fn_179 l1 Y) fun v28 Y26 => (if v28 = (-1 : Int32) then fn_259_J80 l3 (nI 0) Y26 else fn_259_J80 l3 (nI 1) Y26)
def fn_259_J26 (l1 : Int32) (l2 : Int32) (t0 : Int32) (Y : Sm) : Option (Int32 × Sm) :=
  bd (fn_165 t0 (nI 2) Y) fun v12 Y10 => (if v12 = (nI 0) then some ((nI 0), Y10) else bd (fn_176 Y10) fun _ Y13 => exd (lp (fun s => fn_259_L41 l1 l2 s.1 s.2) FU ((nI 0), Y13)) fun s9 => fn_259_J66 l1 s9.1 s9.2)
def fn_259 (a1 : Int32) (a2 : Int32) (Y : Sm) : Option (Int32 × Sm) :=
  bd (fn_210 a2 Y) fun v3 Y1 => bd (fn_164 v3 Y1) fun v6 Y4 => (if v6 = (nI 0) then some ((nI 0), Y4) else bd (fn_179 a1 Y4) fun v9 Y7 => (if v9 = (-1 : Int32) then fn_259_J26 a1 a2 (nI 0) Y7 else fn_259_J26 a1 a2 (nI 1) Y7))
/-- BallotBusModel.wouldAnswer -/
def fn_260 (a1 : Int32) (a2 : Int32) (Y : Sm) : Option (Int32 × Sm) :=
  bd (fn_176 Y) fun _ Y1 => bd (fn_207 a1 a2 Y1) fun v5 Y3 => bd (fn_177 v5 Y3) fun v8 Y6 => some (v8, Y6)
/-- BallotBusModel.answersIn -/
def fn_261_J19 (l1 : Int32) (l2 : Int32) (t0 : Int32) (Y : Sm) : Option (Int32 × Sm) :=
  bd (fn_164 t0 Y) fun v3 Y1 => (if v3 = (nI 0) then some ((nI 0), Y1) else bd (fn_210 l1 Y1) fun v6 Y4 => bd (fn_165 v6 (nI 2) Y4) fun v9 Y7 => (if v9 = (nI 0) then some ((nI 0), Y7) else bd (fn_260 l1 l2 Y7) fun v12 Y10 => some (v12, Y10)))
def fn_261_J14 (l1 : Int32) (l2 : Int32) (Y : Sm) : Option (Int32 × Sm) :=
  fn_261_J19 l1 l2 (nI 1) Y
def fn_261 (a1 : Int32) (a2 : Int32) (Y : Sm) : Option (Int32 × Sm) :=
  (if a2 = (-1 : Int32) then fn_261_J14 a1 a2 Y else bd (fn_208 a2 Y) fun v15 Y13 => (if v15 = (nI 0) then fn_261_J19 a1 a2 (nI 0) Y13 else fn_261_J14 a1 a2 Y13))
/-- BallotBusModel.vetoBrings -/
def fn_262 (a1 : Int32) (a2 : Int32) (a3 : Int32) (Y : Sm) : Option (Int32 × Sm) :=
  bd (fn_218 a1 a2 Y) fun v3 Y1 => (if v3 = (nI 0) then some ((-1 : Int32), Y1) else bd (fn_176 Y1) fun _ Y4 => bd (fn_219 a1 a2 Y4) fun v8 Y6 => bd (fn_207 a3 a1 Y6) fun v11 Y9 => bd (fn_177 v11 Y9) fun v14 Y12 => some (v14, Y12))
/-- BallotBusModel.bestVeto -/
def fn_263_L39 (l1 : Int32) (l2 : Int32) (l3 : Int32) (l4 : Int32) (l5 : Int32) (Y : Sm) : Option ((Int32 × Int32 × Int32 × Sm) ⊕ (Int32 × Sm)) :=
  (if (gI Y.1 48 0 1) ≤ l5 then some (.inr (l3, Y)) else bd (fn_262 l1 l5 l2 Y) fun v21 Y19 => (if l4 < v21 then some (.inl (l5, v21, (l5 + (nI 1)), Y19)) else some (.inl (l3, l4, (l5 + (nI 1)), Y19))))
def fn_263 (a1 : Int32) (a2 : Int32) (Y : Sm) : Option (Int32 × Sm) :=
  bd (fn_208 a1 Y) fun v3 Y1 => bd (fn_164 v3 Y1) fun v6 Y4 => (if v6 = (nI 0) then some ((nI 0), Y4) else bd (fn_210 a2 Y4) fun v9 Y7 => bd (fn_165 v9 (nI 2) Y7) fun v12 Y10 => (if v12 = (nI 0) then some ((nI 0), Y10) else bd (fn_260 a2 a1 Y10) fun v15 Y13 => lp (fun s => fn_263_L39 a1 a2 s.1 s.2.1 s.2.2.1 s.2.2.2) FU ((-1 : Int32), v15, (nI 0), Y13)))
/-- BallotBusModel.bestTally -/
def fn_264_L20 (l1 : Int32) (l2 : Int32) (l3 : Int32) (l4 : Int32) (Y : Sm) : Option ((Int32 × Int32 × Int32 × Sm) ⊕ (Int32 × Sm)) :=
  (if (nI 2) < l4 then some (.inr (l2, Y)) else bd (fn_176 Y) fun _ Y10 => wr (sI Y10 52 0 1 l4) fun Y12 => bd (fn_207 l1 (-1 : Int32) Y12) fun v15 Y13 => bd (fn_177 v15 Y13) fun v18 Y16 => (if l3 < v18 then some (.inl (l4, v18, (l4 + (nI 1)), Y16)) else some (.inl (l2, l3, (l4 + (nI 1)), Y16))))
def fn_264 (a1 : Int32) (Y : Sm) : Option (Int32 × Sm) :=
  bd (fn_210 a1 Y) fun v3 Y1 => bd (fn_164 v3 Y1) fun v6 Y4 => (if v6 = (nI 0) then some ((nI 0), Y4) else lp (fun s => fn_264_L20 a1 s.1 s.2.1 s.2.2.1 s.2.2.2) FU ((nI 0), (-1 : Int32), (nI 0), Y4))
/-- BallotBusModel.bestBallot -/
def fn_265_L25 (l1 : Int32) (l2 : Int32) (l3 : Int32) (l4 : Int32) (Y : Sm) : Option ((Int32 × Int32 × Int32 × Sm) ⊕ (Int32 × Sm)) :=
  bd (fn_252 Y) fun v12 Y10 => (if v12 ≤ l4 then some (.inr (l2, Y10)) else bd (fn_214 l4 Y10) fun v15 Y13 => (if v15 = (nI 0) then some (.inl (l2, l3, (l4 + (nI 1)), Y13)) else bd (fn_176 Y13) fun _ Y16 => bd (fn_215 Y16) fun v20 Y18 => bd (fn_207 l1 v20 Y18) fun v23 Y21 => bd (fn_177 v23 Y21) fun v26 Y24 => (if l3 < v26 then some (.inl (l4, v26, (l4 + (nI 1)), Y24)) else some (.inl (l2, l3, (l4 + (nI 1)), Y24)))))
def fn_265 (a1 : Int32) (Y : Sm) : Option (Int32 × Sm) :=
  bd (fn_166 ((a1).toInt64) (Int64.ofNat 1) (((nI 100)).toInt64) Y) fun v3 Y1 => bd (fn_164 v3 Y1) fun v6 Y4 => (if v6 = (nI 0) then some ((nI 0), Y4) else lp (fun s => fn_265_L25 a1 s.1 s.2.1 s.2.2.1 s.2.2.2) FU ((-1 : Int32), (-1 : Int32), (nI 0), Y4))
/-- BallotBusModel.silentIn -/
def fn_266_L20 (l1 : Int32) (l2 : Int32) (Y : Sm) : Option ((Int32 × Sm) ⊕ ((Int32 × Sm) ⊕ (Int32 × Sm))) :=
  (if (nI 1000) ≤ l2 then some (.inr (.inl (l2, Y))) else bd (fn_189 l1 Y) fun v17 Y15 => (if v17 = (nI 0) then some (.inr (.inl (l2, Y15))) else bd (fn_205 Y15) fun _ Y18 => some (.inl ((l2 + (nI 1)), Y18))))
def fn_266_J46 (l1 : Int32) (l2 : Int32) (Y : Sm) : Option (Int32 × Sm) :=
  bd (fn_189 l1 Y) fun v22 Y20 => (if v22 = (nI 0) then bd (fn_177 l2 Y20) fun v25 Y23 => some (v25, Y23) else bd (fn_177 (-1 : Int32) Y20) fun v28 Y26 => some (v28, Y26))
def fn_266 (a1 : Int32) (Y : Sm) : Option (Int32 × Sm) :=
  bd (fn_208 a1 Y) fun v3 Y1 => bd (fn_164 v3 Y1) fun v6 Y4 => (if v6 = (nI 0) then some ((nI 0), Y4) else bd (fn_176 Y4) fun _ Y7 => exd (lp (fun s => fn_266_L20 a1 s.1 s.2) FU ((nI 0), Y7)) fun s9 => fn_266_J46 a1 s9.1 s9.2)
/-- BallotBusModel.emptyIn -/
def fn_267_L11 (l1 : Int32) (Y : Sm) : Option ((Int32 × Sm) ⊕ ((Int32 × Sm) ⊕ (Int32 × Sm))) :=
  (if (nI 1000) ≤ l1 then some (.inr (.inl (l1, Y))) else (if (gI Y.1 52 0 9) ≤ (nI 0) then some (.inr (.inl (l1, Y))) else bd (fn_205 Y) fun _ Y10 => some (.inl ((l1 + (nI 1)), Y10))))
def fn_267_J39 (l1 : Int32) (Y : Sm) : Option (Int32 × Sm) :=
  (if (gI Y.1 52 0 9) ≤ (nI 0) then bd (fn_177 l1 Y) fun v14 Y12 => some (v14, Y12) else bd (fn_177 (-1 : Int32) Y) fun v17 Y15 => some (v17, Y15))
def fn_267 (Y : Sm) : Option (Int32 × Sm) :=
  wr (sI Y 48 0 0 (nI 0)) fun Y1 => bd (fn_176 Y1) fun _ Y2 => exd (lp (fun s => fn_267_L11 s.1 s.2) FU ((nI 0), Y2)) fun s9 => fn_267_J39 s9.1 s9.2
/-- BallotBusModel.feed -/
def fn_270_J76_d1 (l1 : Int32) (l2 : Int32) (l3 : Int32) (l4 : Int32) (l5 : Int32) (l6 : Int32) (t0 : Int32) (Y : Sm) : Option ((Int32 × Sm) ⊕ (Int32 × Sm)) :=
  ck (inb (gI Y.1 48 0 23) 500) <| wr (sI Y 60 0 (ix (gI Y.1 48 0 23)) (((((t0 >>> (((nI 24) - ((nI 8) * (l6 - l6 / (nI 4) * (nI 4)))) &&& 31))).toInt8.toInt32)).toInt8.toInt32)) fun Y6 => wr (sI Y6 48 0 23 ((gI Y6.1 48 0 23) + (nI 1))) fun Y7 => some (.inl ((l6 + (nI 1)), Y7))
def fn_270_L23 (l1 : Int32) (l2 : Int32) (l3 : Int32) (l4 : Int32) (l5 : Int32) (l6 : Int32) (Y : Sm) : Option ((Int32 × Sm) ⊕ (Int32 × Sm)) :=
  (if (nI 20) ≤ l6 then some (.inr ((gI Y.1 48 0 23), Y)) else (if (nI 4) ≤ l6 then (if (nI 8) ≤ l6 then (if (nI 12) ≤ l6 then (if (nI 16) ≤ l6 then fn_270_J76_d1 l1 l2 l3 l4 l5 l6 l5 Y else fn_270_J76_d1 l1 l2 l3 l4 l5 l6 l4 Y) else fn_270_J76_d1 l1 l2 l3 l4 l5 l6 l3 Y) else fn_270_J76_d1 l1 l2 l3 l4 l5 l6 l2 Y) else fn_270_J76_d1 l1 l2 l3 l4 l5 l6 l1 Y))
def fn_270 (a1 : Int32) (a2 : Int32) (a3 : Int32) (a4 : Int32) (a5 : Int32) (Y : Sm) : Option (Int32 × Sm) :=
  wr (sI Y 48 0 0 (nI 0)) fun Y1 => (if ((gI Y1.1 48 0 23) + (nI 20)) ≤ (nI 500) then lp (fun s => fn_270_L23 a1 a2 a3 a4 a5 s.1 s.2) FU ((nI 0), Y1) else some ((-1 : Int32), Y1))
/-- BallotBusModel.truncate -/
def fn_271 (a1 : Int32) (Y : Sm) : Option (Int32 × Sm) :=
  wr (sI Y 48 0 0 (nI 0)) fun Y1 => bd (fn_166 ((a1).toInt64) (Int64.ofNat 0) ((gI Y1.1 48 0 23).toInt64) Y1) fun v4 Y2 => (if v4 = (nI 0) then some ((nI 0), Y2) else wr (sI Y2 48 0 23 a1) fun Y5 => some ((nI 1), Y5))
/-- BallotBusModel.clears -/
def fn_268_L54 (l1 : Int32) (Y : Sm) : Option ((Int32 × Sm) ⊕ (Unit × Sm)) :=
  (if (nI 718) ≤ l1 then wr (sI Y 53 0 8 (-1 : Int32)) fun Y12 => some (.inr ((), Y12)) else ck (inb l1 718) <| wr (sI Y 53 0 (ix l1) (nI 0)) fun Y14 => some (.inl ((l1 + (nI 1)), Y14)))
def fn_268 (Y : Sm) : Option (Unit × Sm) :=
  wr (sI Y 48 0 33 (nI 0)) fun Y1 => wr (sI Y1 48 0 34 (nI 0)) fun Y2 => wr (sI Y2 48 0 35 (nI 0)) fun Y3 => wr (sI Y3 61 0 0 (nI 3)) fun Y4 => wr (sI Y4 61 0 1 (nI 6)) fun Y5 => wr (sI Y5 61 0 2 (nI 10)) fun Y6 => wr (sI Y6 61 0 3 (nI 0)) fun Y7 => wr (sI Y7 61 0 4 (nI 3)) fun Y8 => lp (fun s => fn_268_L54 s.1 s.2) FU ((nI 0), Y8)
/-- BallotBusModel.here -/
def fn_272 (a1 : Int32) (Y : Sm) : Option (Int32 × Sm) :=
  (if (gI Y.1 48 0 24) ≤ a1 then some ((-1 : Int32), Y) else ck (inb a1 500) <| some (((gI Y.1 60 0 (ix a1)) &&& (nI 255)), Y))
/-- BallotBusModel.isLetter -/
def fn_273 (a1 : Int32) (Y : Sm) : Option (Int32 × Sm) :=
  bd (fn_272 a1 Y) fun v3 Y1 => bd (fn_166 ((v3).toInt64) (((nI 97)).toInt64) (((nI 122)).toInt64) Y1) fun v6 Y4 => ck (bz v6) <| some (v6, Y4)
/-- BallotBusModel.wordHere -/
def fn_275_L16_d1 (l1 : Int32) (l2 : Int32) (l3 : Int32) (Y : Sm) : Option ((Int32 × Sm) ⊕ ((Int32 × Sm) ⊕ ((Int32 × Int32 × Sm) ⊕ (Int32 × Sm)))) :=
  ck (inb (l2 + l3) (slen 33)) <| (if (schr 33 (ix (l2 + l3))) = (nI 32) then some (.inr (.inl (l3, Y))) else (if (gI Y.1 48 0 25) ≤ ((gI Y.1 48 0 26) + l3) then some (.inr (.inl (l3, Y))) else ck (inb ((gI Y.1 48 0 26) + l3) 500) <| (if (gI Y.1 60 0 (ix ((gI Y.1 48 0 26) + l3))) = (schr 33 (ix (l2 + l3))) then some (.inl ((l3 + (nI 1)), Y)) else some (.inr (.inl (l3, Y))))))
def fn_275_L102_d1 (l1 : Int32) (l2 : Int32) (Y : Sm) : Option ((Int32 × Sm) ⊕ ((Int32 × Sm) ⊕ ((Int32 × Int32 × Sm) ⊕ (Int32 × Sm)))) :=
  ck (inb l2 (slen 33)) <| (if (schr 33 (ix l2)) = (nI 32) then some (.inr (.inl (l2, Y))) else some (.inl ((l2 + (nI 1)), Y)))
def fn_275_J121_d1 (l1 : Int32) (l2 : Int32) (Y : Sm) : Option ((Int32 × Int32 × Sm) ⊕ (Int32 × Sm)) :=
  some (.inl ((l1 + (nI 1)), (l2 + (nI 1)), Y))
def fn_275_J73_d1 (l1 : Int32) (l2 : Int32) (l3 : Int32) (Y : Sm) : Option ((Int32 × Int32 × Sm) ⊕ (Int32 × Sm)) :=
  ck (inb (l2 + l3) (slen 33)) <| (if (schr 33 (ix (l2 + l3))) = (nI 32) then (if ((gI Y.1 48 0 26) + l3) = (gI Y.1 48 0 25) then some (.inr (l1, Y)) else exd (lp (fun s => fn_275_L102_d1 l1 s.1 s.2) FU (l2, Y)) fun s9 => fn_275_J121_d1 l1 s9.1 s9.2) else exd (lp (fun s => fn_275_L102_d1 l1 s.1 s.2) FU (l2, Y)) fun s9 => fn_275_J121_d1 l1 s9.1 s9.2)
def fn_275_L4 (l1 : Int32) (l2 : Int32) (Y : Sm) : Option ((Int32 × Int32 × Sm) ⊕ (Int32 × Sm)) :=
  (if (nI (slen 33)) ≤ l2 then some (.inr ((-1 : Int32), Y)) else exd (lp (fun s => fn_275_L16_d1 l1 l2 s.1 s.2) FU ((nI 0), Y)) fun s9 => fn_275_J73_d1 l1 l2 s9.1 s9.2)
def fn_275 (Y : Sm) : Option (Int32 × Sm) :=
  lp (fun s => fn_275_L4 s.1 s.2.1 s.2.2) FU ((nI 0), (nI 0), Y)
/-- BallotBusModel.next -/
def fn_274_L0 (Y : Sm) : Option ((Sm) ⊕ ((Sm) ⊕ (Unit × Sm))) :=
  bd (fn_272 (gI Y.1 48 0 25) Y) fun v9 Y7 => (if v9 = (nI 32) then wr (sI Y7 48 0 25 ((gI Y7.1 48 0 25) + (nI 1))) fun Y10 => some (.inl (Y10)) else bd (fn_272 (gI Y7.1 48 0 25) Y7) fun v13 Y11 => (if v13 = (nI 10) then wr (sI Y11 48 0 25 ((gI Y11.1 48 0 25) + (nI 1))) fun Y14 => some (.inl (Y14)) else some (.inr (.inl (Y11)))))
def fn_274_L184 (Y : Sm) : Option ((Sm) ⊕ ((Sm) ⊕ (Unit × Sm))) :=
  bd (fn_272 (gI Y.1 48 0 25) Y) fun v37 Y35 => bd (fn_166 ((v37).toInt64) (((nI 48)).toInt64) (((nI 57)).toInt64) Y35) fun v40 Y38 => (if v40 = (nI 0) then some (.inr (.inl (Y38))) else (if (nI 3) ≤ ((gI Y38.1 48 0 25) - (gI Y38.1 48 0 26)) then wr (sI Y38 48 0 25 ((gI Y38.1 48 0 25) + (nI 1))) fun Y41 => some (.inl (Y41)) else bd (fn_272 (gI Y38.1 48 0 25) Y38) fun v44 Y42 => wr (sI Y42 48 0 29 ((((nI 10) * (gI Y38.1 48 0 29)) + v44) - (nI 48))) fun Y45 => wr (sI Y45 48 0 25 ((gI Y45.1 48 0 25) + (nI 1))) fun Y46 => some (.inl (Y46))))
def fn_274_J254 (Y : Sm) : Option (Unit × Sm) :=
  (if ((gI Y.1 48 0 25) - (gI Y.1 48 0 26)) ≤ (nI 3) then wr (sI Y 48 0 27 (nI 2)) fun Y47 => some ((), Y47) else wr (sI Y 48 0 27 (nI 4)) fun Y48 => some ((), Y48))
def fn_274_L85 (Y : Sm) : Option ((Sm) ⊕ ((Sm) ⊕ (Unit × Sm))) :=
  bd (fn_273 (gI Y.1 48 0 25) Y) fun v61 Y59 => (if v61 = (nI 0) then some (.inr (.inl (Y59))) else (if (nI 6) ≤ ((gI Y59.1 48 0 25) - (gI Y59.1 48 0 26)) then wr (sI Y59 48 0 25 ((gI Y59.1 48 0 25) + (nI 1))) fun Y62 => some (.inl (Y62)) else bd (fn_272 (gI Y59.1 48 0 25) Y59) fun v65 Y63 => wr (sJ Y63 48 0 30 ((((((nI 32)).toInt64) * (gJ Y59.1 48 0 30)) + ((v65).toInt64)) - (((nI 96)).toInt64))) fun Y66 => wr (sI Y66 48 0 25 ((gI Y66.1 48 0 25) + (nI 1))) fun Y67 => some (.inl (Y67))))
def fn_274_J149 (Y : Sm) : Option (Unit × Sm) :=
  wr (sI Y 48 0 27 (nI 1)) fun Y68 => bd (fn_275 Y68) fun v71 Y69 => wr (sI Y69 48 0 28 v71) fun Y72 => some ((), Y72)
def fn_274_J39 (Y : Sm) : Option (Unit × Sm) :=
  wr (sI Y 48 0 26 (gI Y.1 48 0 25)) fun Y15 => bd (fn_272 (gI Y15.1 48 0 25) Y15) fun v18 Y16 => (if v18 = (-1 : Int32) then wr (sI Y16 48 0 27 (nI 0)) fun Y76 => some ((), Y76) else bd (fn_273 (gI Y16.1 48 0 25) Y16) fun v21 Y19 => (if v21 = (nI 0) then bd (fn_166 ((v18).toInt64) (((nI 48)).toInt64) (((nI 57)).toInt64) Y19) fun v24 Y22 => (if v24 = (nI 0) then wr (sI Y22 48 0 25 ((gI Y22.1 48 0 25) + (nI 1))) fun Y25 => (if v18 = (nI 59) then wr (sI Y25 48 0 27 (nI 3)) fun Y27 => some ((), Y27) else wr (sI Y25 48 0 27 (nI 4)) fun Y26 => some ((), Y26)) else wr (sI Y22 48 0 29 (nI 0)) fun Y28 => exd (lp (fun s => fn_274_L184 s) FU (Y28)) fun s9 => fn_274_J254 s9) else wr (sJ Y19 48 0 30 (Int64.ofNat 0)) fun Y52 => exd (lp (fun s => fn_274_L85 s) FU (Y52)) fun s9 => fn_274_J149 s9))
def fn_274 (Y : Sm) : Option (Unit × Sm) :=
  exd (lp (fun s => fn_274_L0 s) FU (Y)) fun s9 => fn_274_J39 s9
/-- BallotBusModel.fine -/
def fn_276 (Y : Sm) : Option (Int32 × Sm) :=
  (if (gI Y.1 48 0 31) = (nI 0) then some ((nI 1), Y) else some ((nI 0), Y))
/-- BallotBusModel.isWord -/
def fn_279 (a1 : Int32) (Y : Sm) : Option (Int32 × Sm) :=
  bd (fn_276 Y) fun v3 Y1 => (if v3 = (nI 0) then some ((nI 0), Y1) else (if (gI Y1.1 48 0 27) = (nI 1) then (if (gI Y1.1 48 0 28) = a1 then some ((nI 1), Y1) else some ((nI 0), Y1)) else some ((nI 0), Y1)))
/-- BallotBusModel.needs -/
def fn_277 (a1 : Int32) (a2 : Int32) (Y : Sm) : Option (Unit × Sm) :=
  (if (gI Y.1 48 0 31) = (nI 0) then (if a1 = (nI 0) then wr (sI Y 48 0 31 a2) fun Y1 => wr (sI Y1 48 0 32 (gI Y1.1 48 0 26)) fun Y2 => some ((), Y2) else some ((), Y)) else some ((), Y))
/-- BallotBusModel.goOn -/
def fn_278 (Y : Sm) : Option (Unit × Sm) :=
  bd (fn_276 Y) fun v3 Y1 => (if v3 = (nI 0) then some ((), Y1) else bd (fn_274 Y1) fun _ Y4 => some ((), Y4))
/-- BallotBusModel.number -/
def fn_281_J14 (l1 : Int32) (l2 : Int32) (t0 : Int32) (Y : Sm) : Option (Int32 × Sm) :=
  bd (fn_277 t0 (nI 1) Y) fun _ Y1 => bd (fn_276 Y1) fun v5 Y3 => (if v5 = (nI 0) then bd (fn_278 Y3) fun _ Y6 => some ((gI Y3.1 48 0 29), Y6) else bd (fn_166 ((gI Y3.1 48 0 29).toInt64) ((l1).toInt64) ((l2).toInt64) Y3) fun v10 Y8 => bd (fn_277 v10 (nI 2) Y8) fun _ Y11 => bd (fn_278 Y11) fun _ Y13 => some ((gI Y11.1 48 0 29), Y13))
def fn_281 (a1 : Int32) (a2 : Int32) (Y : Sm) : Option (Int32 × Sm) :=
  (if (gI Y.1 48 0 27) = (nI 2) then fn_281_J14 a1 a2 (nI 1) Y else fn_281_J14 a1 a2 (nI 0) Y)
/-- BallotBusModel.readsNumber -/
def fn_288_J55 (l1 : Int32) (l2 : Int32) (t0 : Int32) (Y : Sm) : Option (Unit × Sm) :=
  bd (fn_281 l2 t0 Y) fun v5 Y3 => ck (inb l1 5) <| wr (sI Y3 61 0 (ix l1) v5) fun Y7 => some ((), Y7)
def fn_288_J23 (l1 : Int32) (t0 : Int32) (Y : Sm) : Option (Unit × Sm) :=
  (if l1 = (nI 0) then fn_288_J55 l1 t0 (nI 20) Y else (if l1 = (nI 1) then fn_288_J55 l1 t0 (nI 50) Y else (if l1 = (nI 4) then fn_288_J55 l1 t0 (nI 9) Y else fn_288_J55 l1 t0 (nI 99) Y)))
def fn_288_J18 (l1 : Int32) (Y : Sm) : Option (Unit × Sm) :=
  fn_288_J23 l1 (nI 1) Y
def fn_288 (a1 : Int32) (Y : Sm) : Option (Unit × Sm) :=
  bd (fn_278 Y) fun _ Y1 => (if a1 = (nI 0) then fn_288_J18 a1 Y1 else (if a1 = (nI 1) then fn_288_J18 a1 Y1 else (if a1 = (nI 4) then fn_288_J18 a1 Y1 else fn_288_J23 a1 (nI 0) Y1)))
/-- BallotBusModel.readsTally -/
def fn_287_J35 (t0 : Int32) (Y : Sm) : Option (Unit × Sm) :=
  bd (fn_277 t0 (nI 1) Y) fun _ Y3 => bd (fn_276 Y3) fun v7 Y5 => (if v7 = (nI 0) then bd (fn_278 Y5) fun _ Y8 => some ((), Y8) else wr (sI Y5 53 0 1 ((gI Y5.1 48 0 28) - (nI 8))) fun Y10 => bd (fn_278 Y10) fun _ Y11 => some ((), Y11))
def fn_287_J34 (Y : Sm) : Option (Unit × Sm) :=
  fn_287_J35 (nI 0) Y
def fn_287 (Y : Sm) : Option (Unit × Sm) :=
  bd (fn_278 Y) fun _ Y1 => (if (gI Y1.1 48 0 27) = (nI 1) then bd (fn_166 ((gI Y1.1 48 0 28).toInt64) (((nI 8)).toInt64) (((nI 10)).toInt64) Y1) fun v15 Y13 => (if v15 = (nI 0) then fn_287_J34 Y13 else fn_287_J35 (nI 1) Y13) else fn_287_J34 Y1)
/-- BallotBusModel.readsOnce -/
def fn_289_J17 (l1 : Int32) (t0 : Int32) (Y : Sm) : Option (Unit × Sm) :=
  bd (fn_277 t0 (nI 3) Y) fun _ Y4 => wr (sI Y4 48 0 35 ((gI Y4.1 48 0 35) ||| ((nI 1) <<< (l1 &&& 31)))) fun Y6 => bd (fn_276 Y6) fun v9 Y7 => (if v9 = (nI 0) then some ((), Y7) else (if l1 = (nI 0) then bd (fn_287 Y7) fun _ Y20 => some ((), Y20) else (if l1 = (nI 1) then bd (fn_288 (nI 0) Y7) fun _ Y18 => some ((), Y18) else (if l1 = (nI 2) then bd (fn_288 (nI 1) Y7) fun _ Y16 => some ((), Y16) else (if l1 = (nI 3) then bd (fn_288 (nI 2) Y7) fun _ Y14 => some ((), Y14) else (if l1 = (nI 4) then bd (fn_288 (nI 3) Y7) fun _ Y12 => some ((), Y12) else bd (fn_288 (nI 4) Y7) fun _ Y10 => some ((), Y10)))))))
def fn_289 (a1 : Int32) (Y : Sm) : Option (Unit × Sm) :=
  bd (fn_167 (gI Y.1 48 0 35) a1 Y) fun v3 Y1 => (if v3 = (nI 0) then fn_289_J17 a1 (nI 1) Y1 else fn_289_J17 a1 (nI 0) Y1)
/-- BallotBusModel.isName -/
def fn_280 (Y : Sm) : Option (Int32 × Sm) :=
  (if (gI Y.1 48 0 27) = (nI 1) then (if (gI Y.1 48 0 28) = (-1 : Int32) then (if (nI 6) < ((gI Y.1 48 0 25) - (gI Y.1 48 0 26)) then some ((nI 0), Y) else some ((nI 1), Y)) else some ((nI 0), Y)) else some ((nI 0), Y))
/-- BallotBusModel.indexOf -/
def fn_282_64_L3 (l1 : Int32) (l2 : Int64) (l4 : Int32) (Y : Sm) : Option ((Int32 × Sm) ⊕ (Int32 × Sm)) :=
  (if l1 ≤ l4 then some (.inr ((-1 : Int32), Y)) else ck (inb l4 8) <| (if (lg_cmp (gJ Y.1 64 0 (ix l4)) l2) = (nI 0) then some (.inr (l4, Y)) else some (.inl ((l4 + (nI 1)), Y))))
def fn_282_64 (a1 : Int32) (a2 : Int64) (Y : Sm) : Option (Int32 × Sm) :=
  lp (fun s => fn_282_64_L3 a1 a2 s.1 s.2) FU ((nI 0), Y)
/-- BallotBusModel.known -/
def fn_284_48_64 (a2 : Int32) (Y : Sm) : Option (Int32 × Sm) :=
  bd (fn_280 Y) fun v3 Y1 => bd (fn_277 v3 (nI 1) Y1) fun _ Y4 => bd (fn_282_64 a2 (gJ Y4.1 48 0 30) Y4) fun v8 Y6 => bd (fn_276 Y6) fun v11 Y9 => (if v11 = (nI 0) then bd (fn_278 Y9) fun _ Y12 => some (v8, Y12) else (if v8 = (-1 : Int32) then bd (fn_277 (nI 0) (nI 3) Y9) fun _ Y14 => bd (fn_278 Y14) fun _ Y16 => some (v8, Y16) else bd (fn_277 (nI 1) (nI 3) Y9) fun _ Y18 => bd (fn_278 Y18) fun _ Y20 => some (v8, Y20)))
/-- BallotBusModel.indexOf -/
def fn_282_63_L3 (l1 : Int32) (l2 : Int64) (l4 : Int32) (Y : Sm) : Option ((Int32 × Sm) ⊕ (Int32 × Sm)) :=
  (if l1 ≤ l4 then some (.inr ((-1 : Int32), Y)) else ck (inb l4 5) <| (if (lg_cmp (gJ Y.1 63 0 (ix l4)) l2) = (nI 0) then some (.inr (l4, Y)) else some (.inl ((l4 + (nI 1)), Y))))
def fn_282_63 (a1 : Int32) (a2 : Int64) (Y : Sm) : Option (Int32 × Sm) :=
  lp (fun s => fn_282_63_L3 a1 a2 s.1 s.2) FU ((nI 0), Y)
/-- BallotBusModel.known -/
def fn_284_48_63 (a2 : Int32) (Y : Sm) : Option (Int32 × Sm) :=
  bd (fn_280 Y) fun v3 Y1 => bd (fn_277 v3 (nI 1) Y1) fun _ Y4 => bd (fn_282_63 a2 (gJ Y4.1 48 0 30) Y4) fun v8 Y6 => bd (fn_276 Y6) fun v11 Y9 => (if v11 = (nI 0) then bd (fn_278 Y9) fun _ Y12 => some (v8, Y12) else (if v8 = (-1 : Int32) then bd (fn_277 (nI 0) (nI 3) Y9) fun _ Y14 => bd (fn_278 Y14) fun _ Y16 => some (v8, Y16) else bd (fn_277 (nI 1) (nI 3) Y9) fun _ Y18 => bd (fn_278 Y18) fun _ Y20 => some (v8, Y20)))
/-- BallotBusModel.readsAsk -/
def fn_290_J18 (t0 : Int32) (Y : Sm) : Option (Unit × Sm) :=
  bd (fn_277 t0 (nI 4) Y) fun _ Y1 => bd (fn_278 Y1) fun _ Y3 => bd (fn_284_48_64 (gI Y3.1 48 0 34) Y3) fun v7 Y5 => bd (fn_284_48_63 (gI Y5.1 48 0 33) Y5) fun v10 Y8 => bd (fn_281 (nI 1) (nI 20) Y8) fun v13 Y11 => bd (fn_276 Y11) fun v16 Y14 => (if v16 = (nI 0) then some ((), Y14) else ck (inb (((nI 118) + ((nI 6) * (gI Y14.1 53 0 9))) + (nI 0)) 718) <| wr (sI Y14 53 0 (ix (((nI 118) + ((nI 6) * (gI Y14.1 53 0 9))) + (nI 0))) (gI Y14.1 53 0 6)) fun Y18 => ck (inb (((nI 118) + ((nI 6) * (gI Y14.1 53 0 9))) + (nI 1)) 718) <| wr (sI Y18 53 0 (ix (((nI 118) + ((nI 6) * (gI Y14.1 53 0 9))) + (nI 1))) v7) fun Y20 => ck (inb (((nI 118) + ((nI 6) * (gI Y14.1 53 0 9))) + (nI 2)) 718) <| wr (sI Y20 53 0 (ix (((nI 118) + ((nI 6) * (gI Y14.1 53 0 9))) + (nI 2))) v10) fun Y22 => ck (inb (((nI 118) + ((nI 6) * (gI Y14.1 53 0 9))) + (nI 3)) 718) <| wr (sI Y22 53 0 (ix (((nI 118) + ((nI 6) * (gI Y14.1 53 0 9))) + (nI 3))) v13) fun Y24 => ck (inb (((nI 118) + ((nI 6) * (gI Y14.1 53 0 9))) + (nI 4)) 718) <| wr (sI Y24 53 0 (ix (((nI 118) + ((nI 6) * (gI Y14.1 53 0 9))) + (nI 4))) v13) fun Y26 => wr (sI Y26 53 0 9 ((gI Y26.1 53 0 9) + (nI 1))) fun Y27 => wr (sI Y27 53 0 6 ((gI Y27.1 53 0 6) + (nI 1))) fun Y28 => some ((), Y28))
def fn_290 (Y : Sm) : Option (Unit × Sm) :=
  (if (nI 40) ≤ (gI Y.1 53 0 9) then fn_290_J18 (nI 0) Y else fn_290_J18 (nI 1) Y)
/-- BallotBusModel.fresh -/
def fn_283_48_64_J35 (t0 : Int32) (Y : Sm) : Option (Int64 × Sm) :=
  bd (fn_277 t0 (nI 3) Y) fun _ Y14 => bd (fn_278 Y14) fun _ Y16 => some ((gJ Y14.1 48 0 30), Y16)
def fn_283_48_64 (a2 : Int32) (Y : Sm) : Option (Int64 × Sm) :=
  bd (fn_280 Y) fun v3 Y1 => bd (fn_277 v3 (nI 1) Y1) fun _ Y4 => bd (fn_276 Y4) fun v8 Y6 => (if v8 = (nI 0) then bd (fn_278 Y6) fun _ Y9 => some ((gJ Y6.1 48 0 30), Y9) else bd (fn_282_64 a2 (gJ Y6.1 48 0 30) Y6) fun v13 Y11 => (if v13 = (-1 : Int32) then fn_283_48_64_J35 (nI 1) Y11 else fn_283_48_64_J35 (nI 0) Y11))
/-- BallotBusModel.readsAsker -/
def fn_286_J15 (t0 : Int32) (Y : Sm) : Option (Unit × Sm) :=
  bd (fn_277 t0 (nI 4) Y) fun _ Y1 => bd (fn_278 Y1) fun _ Y3 => bd (fn_276 Y3) fun v7 Y5 => (if v7 = (nI 0) then some ((), Y5) else bd (fn_283_48_64 (gI Y5.1 48 0 34) Y5) fun v10 Y8 => ck (inb (gI Y5.1 48 0 34) 8) <| wr (sJ Y8 64 0 (ix (gI Y5.1 48 0 34)) v10) fun Y12 => bd (fn_279 (nI 5) Y12) fun v15 Y13 => bd (fn_277 v15 (nI 1) Y13) fun _ Y16 => bd (fn_278 Y16) fun _ Y18 => bd (fn_281 (nI 0) (nI 999) Y18) fun v22 Y20 => ck (inb ((nI 20) + (gI Y5.1 48 0 34)) 718) <| wr (sI Y20 53 0 (ix ((nI 20) + (gI Y5.1 48 0 34))) v22) fun Y24 => wr (sI Y24 62 0 (ix (gI Y5.1 48 0 34)) (nI 1)) fun Y25 => bd (fn_279 (nI 6) Y25) fun v28 Y26 => (if v28 = (nI 0) then wr (sI Y26 48 0 34 ((gI Y5.1 48 0 34) + (nI 1))) fun Y29 => some ((), Y29) else bd (fn_278 Y26) fun _ Y30 => bd (fn_281 (nI 1) (nI 9) Y30) fun v34 Y32 => wr (sI Y32 62 0 (ix (gI Y5.1 48 0 34)) v34) fun Y35 => wr (sI Y35 48 0 34 ((gI Y5.1 48 0 34) + (nI 1))) fun Y36 => some ((), Y36)))
def fn_286 (Y : Sm) : Option (Unit × Sm) :=
  (if (nI 8) ≤ (gI Y.1 48 0 34) then fn_286_J15 (nI 0) Y else fn_286_J15 (nI 1) Y)
/-- BallotBusModel.fresh -/
def fn_283_48_63_J35 (t0 : Int32) (Y : Sm) : Option (Int64 × Sm) :=
  bd (fn_277 t0 (nI 3) Y) fun _ Y14 => bd (fn_278 Y14) fun _ Y16 => some ((gJ Y14.1 48 0 30), Y16)
def fn_283_48_63 (a2 : Int32) (Y : Sm) : Option (Int64 × Sm) :=
  bd (fn_280 Y) fun v3 Y1 => bd (fn_277 v3 (nI 1) Y1) fun _ Y4 => bd (fn_276 Y4) fun v8 Y6 => (if v8 = (nI 0) then bd (fn_278 Y6) fun _ Y9 => some ((gJ Y6.1 48 0 30), Y9) else bd (fn_282_63 a2 (gJ Y6.1 48 0 30) Y6) fun v13 Y11 => (if v13 = (-1 : Int32) then fn_283_48_63_J35 (nI 1) Y11 else fn_283_48_63_J35 (nI 0) Y11))
/-- BallotBusModel.readsClass -/
def fn_285_J14 (t0 : Int32) (Y : Sm) : Option (Unit × Sm) :=
  bd (fn_277 t0 (nI 4) Y) fun _ Y1 => bd (fn_278 Y1) fun _ Y3 => bd (fn_276 Y3) fun v7 Y5 => (if v7 = (nI 0) then some ((), Y5) else bd (fn_283_48_63 (gI Y5.1 48 0 33) Y5) fun v10 Y8 => ck (inb (gI Y5.1 48 0 33) 5) <| wr (sJ Y8 63 0 (ix (gI Y5.1 48 0 33)) v10) fun Y12 => bd (fn_276 Y12) fun v15 Y13 => (if v15 = (nI 0) then wr (sI Y13 48 0 33 ((gI Y5.1 48 0 33) + (nI 1))) fun Y16 => some ((), Y16) else (if (gI Y13.1 48 0 27) = (nI 1) then bd (fn_166 ((gI Y13.1 48 0 28).toInt64) (Int64.ofNat 1) (((nI 3)).toInt64) Y13) fun v20 Y18 => (if v20 = (nI 0) then wr (sI Y18 48 0 33 ((gI Y5.1 48 0 33) + (nI 1))) fun Y21 => some ((), Y21) else ck (inb ((nI 15) + (gI Y5.1 48 0 33)) 718) <| wr (sI Y18 53 0 (ix ((nI 15) + (gI Y5.1 48 0 33))) (gI Y18.1 48 0 28)) fun Y23 => bd (fn_278 Y23) fun _ Y24 => wr (sI Y24 48 0 33 ((gI Y5.1 48 0 33) + (nI 1))) fun Y26 => some ((), Y26)) else wr (sI Y13 48 0 33 ((gI Y5.1 48 0 33) + (nI 1))) fun Y17 => some ((), Y17))))
def fn_285 (Y : Sm) : Option (Unit × Sm) :=
  (if (nI 5) ≤ (gI Y.1 48 0 33) then fn_285_J14 (nI 0) Y else fn_285_J14 (nI 1) Y)
/-- BallotBusModel.statement -/
def fn_291_J116 (Y : Sm) : Option (Unit × Sm) :=
  (if (gI Y.1 48 0 27) = (nI 3) then bd (fn_277 (nI 1) (nI 1) Y) fun _ Y16 => bd (fn_278 Y16) fun _ Y18 => some ((), Y18) else bd (fn_277 (nI 0) (nI 1) Y) fun _ Y12 => bd (fn_278 Y12) fun _ Y14 => some ((), Y14))
def fn_291_J110 (Y : Sm) : Option (Unit × Sm) :=
  bd (fn_277 (nI 0) (nI 1) Y) fun _ Y10 => fn_291_J116 Y10
def fn_291_J71 (Y : Sm) : Option (Unit × Sm) :=
  (if (gI Y.1 48 0 27) = (nI 1) then bd (fn_166 ((gI Y.1 48 0 28).toInt64) (((nI 11)).toInt64) (((nI 15)).toInt64) Y) fun v22 Y20 => (if v22 = (nI 0) then fn_291_J110 Y20 else bd (fn_289 ((gI Y20.1 48 0 28) - (nI 10)) Y20) fun _ Y23 => fn_291_J116 Y23) else fn_291_J110 Y)
def fn_291 (Y : Sm) : Option (Unit × Sm) :=
  bd (fn_279 (nI 0) Y) fun v3 Y1 => (if v3 = (nI 0) then bd (fn_279 (nI 4) Y1) fun v6 Y4 => (if v6 = (nI 0) then bd (fn_279 (nI 16) Y4) fun v9 Y7 => (if v9 = (nI 0) then (if (gI Y7.1 48 0 27) = (nI 1) then (if (gI Y7.1 48 0 28) = (nI 7) then bd (fn_289 (nI 0) Y7) fun _ Y25 => fn_291_J116 Y25 else fn_291_J71 Y7) else fn_291_J71 Y7) else bd (fn_290 Y7) fun _ Y27 => fn_291_J116 Y27) else bd (fn_286 Y4) fun _ Y29 => fn_291_J116 Y29) else bd (fn_285 Y1) fun _ Y31 => fn_291_J116 Y31)
/-- BallotBusModel.copies -/
def fn_170_53_52_L2 (l2 : Int32) (Y : Sm) : Option ((Int32 × Sm) ⊕ (Unit × Sm)) :=
  (if (nI 718) ≤ l2 then some (.inr ((), Y)) else ck (inb l2 718) <| wr (sI Y 52 0 (ix l2) (gI Y.1 53 0 (ix l2))) fun Y5 => some (.inl ((l2 + (nI 1)), Y5)))
def fn_170_53_52 (Y : Sm) : Option (Unit × Sm) :=
  lp (fun s => fn_170_53_52_L2 s.1 s.2) FU ((nI 0), Y)
/-- BallotBusModel.takesDraft -/
def fn_269_L68 (l1 : Int32) (Y : Sm) : Option ((Int32 × Sm) ⊕ ((Sm) ⊕ (Unit × Sm))) :=
  (if (gI Y.1 48 0 1) ≤ l1 then some (.inr (.inl (Y))) else ck (inb l1 5) <| wr (sJ Y 50 0 (ix l1) (gJ Y.1 63 0 (ix l1))) fun Y15 => some (.inl ((l1 + (nI 1)), Y15)))
def fn_269_L96 (l1 : Int32) (Y : Sm) : Option ((Int32 × Sm) ⊕ ((Sm) ⊕ (Unit × Sm))) :=
  (if (gI Y.1 48 0 2) ≤ l1 then some (.inr (.inl (Y))) else ck (inb l1 8) <| wr (sJ Y 51 0 (ix l1) (gJ Y.1 64 0 (ix l1))) fun Y23 => wr (sI Y23 49 0 (ix l1) (gI Y23.1 62 0 (ix l1))) fun Y24 => some (.inl ((l1 + (nI 1)), Y24)))
def fn_269_L147 (l1 : Int32) (Y : Sm) : Option ((Int32 × Sm) ⊕ ((Sm) ⊕ (Unit × Sm))) :=
  (if (gI Y.1 48 0 1) ≤ l1 then some (.inr (.inl (Y))) else ck (inb ((nI 10) + l1) 718) <| wr (sI Y 52 0 (ix ((nI 10) + l1)) l1) fun Y34 => some (.inl ((l1 + (nI 1)), Y34)))
def fn_269_L183_d1 (l1 : Int32) (l2 : Int32) (Y : Sm) : Option ((Int32 × Sm) ⊕ ((Int32 × Sm) ⊕ (Unit × Sm))) :=
  (if (gI Y.1 48 0 1) ≤ l2 then some (.inr (.inl ((l1 + (nI 1)), Y))) else ck (inb (((nI 78) + ((nI 5) * l1)) + l2) 718) <| wr (sI Y 52 0 (ix (((nI 78) + ((nI 5) * l1)) + l2)) l2) fun Y44 => some (.inl ((l2 + (nI 1)), Y44)))
def fn_269_L173 (l1 : Int32) (Y : Sm) : Option ((Int32 × Sm) ⊕ (Unit × Sm)) :=
  (if (gI Y.1 48 0 2) ≤ l1 then wr (sI Y 48 0 17 (nI 0)) fun Y38 => wr (sI Y38 48 0 18 (nI 0)) fun Y39 => some (.inr ((), Y39)) else lp (fun s => fn_269_L183_d1 l1 s.1 s.2) FU ((nI 0), Y))
def fn_269_J171 (Y : Sm) : Option (Unit × Sm) :=
  lp (fun s => fn_269_L173 s.1 s.2) FU ((nI 0), Y)
def fn_269_J134 (Y : Sm) : Option (Unit × Sm) :=
  bd (fn_170_53_52 Y) fun _ Y25 => exd (lp (fun s => fn_269_L147 s.1 s.2) FU ((nI 0), Y25)) fun s9 => fn_269_J171 s9
def fn_269_J94 (Y : Sm) : Option (Unit × Sm) :=
  exd (lp (fun s => fn_269_L96 s.1 s.2) FU ((nI 0), Y)) fun s9 => fn_269_J134 s9
def fn_269 (Y : Sm) : Option (Unit × Sm) :=
  wr (sI Y 48 0 1 (gI Y.1 48 0 33)) fun Y1 => wr (sI Y1 48 0 2 (gI Y1.1 48 0 34)) fun Y2 => wr (sI Y2 48 0 3 (gI Y2.1 61 0 0)) fun Y3 => wr (sI Y3 48 0 4 (gI Y3.1 61 0 1)) fun Y4 => wr (sI Y4 48 0 5 (gI Y4.1 61 0 2)) fun Y5 => wr (sI Y5 48 0 6 (gI Y5.1 61 0 3)) fun Y6 => wr (sI Y6 48 0 7 (gI Y6.1 61 0 4)) fun Y7 => exd (lp (fun s => fn_269_L68 s.1 s.2) FU ((nI 0), Y7)) fun s9 => fn_269_J94 s9
/-- BallotBusModel.parse -/
def fn_292_L41 (Y : Sm) : Option ((Sm) ⊕ ((Sm) ⊕ (Int32 × Sm))) :=
  bd (fn_276 Y) fun v19 Y17 => (if v19 = (nI 0) then some (.inr (.inl (Y17))) else (if (gI Y17.1 48 0 27) = (nI 0) then some (.inr (.inl (Y17))) else bd (fn_291 Y17) fun _ Y20 => some (.inl (Y20))))
def fn_292_J82 (t0 : Int32) (Y : Sm) : Option (Int32 × Sm) :=
  bd (fn_277 t0 (nI 5) Y) fun _ Y22 => bd (fn_276 Y22) fun v26 Y24 => (if v26 = (nI 0) then some ((-1 : Int32), Y24) else bd (fn_269 Y24) fun _ Y27 => some ((gI Y27.1 48 0 1), Y27))
def fn_292_J81 (Y : Sm) : Option (Int32 × Sm) :=
  fn_292_J82 (nI 0) Y
def fn_292_J62 (Y : Sm) : Option (Int32 × Sm) :=
  (if (gI Y.1 48 0 33) ≤ (nI 0) then fn_292_J81 Y else (if (gI Y.1 48 0 34) ≤ (nI 0) then fn_292_J81 Y else fn_292_J82 (nI 1) Y))
def fn_292 (Y : Sm) : Option (Int32 × Sm) :=
  wr (sI Y 48 0 0 (nI 0)) fun Y1 => wr (sI Y1 48 0 31 (nI 0)) fun Y2 => wr (sI Y2 48 0 32 (-1 : Int32)) fun Y3 => bd (fn_268 Y3) fun _ Y4 => wr (sI Y4 48 0 24 (gI Y4.1 48 0 23)) fun Y6 => wr (sI Y6 48 0 23 (nI 0)) fun Y7 => wr (sI Y7 48 0 25 (nI 0)) fun Y8 => bd (fn_274 Y8) fun _ Y9 => exd (lp (fun s => fn_292_L41 s) FU (Y9)) fun s9 => fn_292_J62 s9
/-- BallotBusModel.errorCode -/
def fn_293 (Y : Sm) : Option (Int32 × Sm) :=
  wr (sI Y 48 0 0 (nI 0)) fun Y1 => some ((gI Y1.1 48 0 31), Y1)
/-- BallotBusModel.errorOffset -/
def fn_294 (Y : Sm) : Option (Int32 × Sm) :=
  wr (sI Y 48 0 0 (nI 0)) fun Y1 => some ((gI Y1.1 48 0 32), Y1)
/-- BallotBusModel.indexOf -/
def fn_282_50_L3 (l1 : Int32) (l2 : Int64) (l4 : Int32) (Y : Sm) : Option ((Int32 × Sm) ⊕ (Int32 × Sm)) :=
  (if l1 ≤ l4 then some (.inr ((-1 : Int32), Y)) else ck (inb l4 5) <| (if (lg_cmp (gJ Y.1 50 0 (ix l4)) l2) = (nI 0) then some (.inr (l4, Y)) else some (.inl ((l4 + (nI 1)), Y))))
def fn_282_50 (a1 : Int32) (a2 : Int64) (Y : Sm) : Option (Int32 × Sm) :=
  lp (fun s => fn_282_50_L3 a1 a2 s.1 s.2) FU ((nI 0), Y)
/-- BallotBusModel.indexOf -/
def fn_282_51_L3 (l1 : Int32) (l2 : Int64) (l4 : Int32) (Y : Sm) : Option ((Int32 × Sm) ⊕ (Int32 × Sm)) :=
  (if l1 ≤ l4 then some (.inr ((-1 : Int32), Y)) else ck (inb l4 8) <| (if (lg_cmp (gJ Y.1 51 0 (ix l4)) l2) = (nI 0) then some (.inr (l4, Y)) else some (.inl ((l4 + (nI 1)), Y))))
def fn_282_51 (a1 : Int32) (a2 : Int64) (Y : Sm) : Option (Int32 × Sm) :=
  lp (fun s => fn_282_51_L3 a1 a2 s.1 s.2) FU ((nI 0), Y)
/-- BallotBusModel.find -/
def fn_295_L34 (l1 : Int32) (l2 : Int32) (l3 : Int64) (l5 : Int32) (Y : Sm) : Option ((Int64 × Int32 × Sm) ⊕ ((Int64 × Sm) ⊕ (Int32 × Sm))) :=
  (if l2 ≤ l5 then some (.inr (.inl (l3, Y))) else ck (inb l5 500) <| bd (fn_166 ((gI Y.1 60 0 (ix l5)).toInt64) (((nI 97)).toInt64) (((nI 122)).toInt64) Y) fun v15 Y13 => (if v15 = (nI 0) then some (.inr (.inr ((-1 : Int32), Y13))) else some (.inl (((((((nI 32)).toInt64) * l3) + ((gI Y13.1 60 0 (ix l5)).toInt64)) - (((nI 96)).toInt64)), (l5 + (nI 1)), Y13))))
def fn_295_J87 (l1 : Int32) (l3 : Int64) (Y : Sm) : Option (Int32 × Sm) :=
  (if l1 = (nI 0) then bd (fn_282_50 (gI Y.1 48 0 1) l3 Y) fun v18 Y16 => some (v18, Y16) else bd (fn_282_51 (gI Y.1 48 0 2) l3 Y) fun v21 Y19 => some (v21, Y19))
def fn_295 (a1 : Int32) (Y : Sm) : Option (Int32 × Sm) :=
  wr (sI Y 48 0 0 (nI 0)) fun Y1 => wr (sI Y1 48 0 23 (nI 0)) fun Y2 => bd (fn_166 ((gI Y1.1 48 0 23).toInt64) (Int64.ofNat 1) (((nI 6)).toInt64) Y2) fun v5 Y3 => (if v5 = (nI 0) then some ((-1 : Int32), Y3) else exd (lp (fun s => fn_295_L34 a1 (gI Y1.1 48 0 23) s.1 s.2.1 s.2.2) FU ((Int64.ofNat 0), (nI 0), Y3)) fun s9 => fn_295_J87 a1 s9.1 s9.2)
/-- BallotBusModel.says -/
def fn_296 (a1 : Int32) (Y : Sm) : Option (Unit × Sm) :=
  ck (inb (gI Y.1 48 0 41) 60) <| wr (sI Y 65 0 (ix (gI Y.1 48 0 41)) ((((a1).toInt8.toInt32)).toInt8.toInt32)) fun Y2 => wr (sI Y2 48 0 41 ((gI Y2.1 48 0 41) + (nI 1))) fun Y3 => some ((), Y3)
/-- BallotBusModel.saysName -/
def fn_297 : Nat → Int64 → Sm → Option (Unit × Sm)
  | 0, _, _ => none
  | n + 1, a1, Y => (if (lg_cmp a1 (((nI 31)).toInt64)) ≤ (nI 0) then bd (fn_296 ((((a1 &&& (((nI 31)).toInt64))).toInt32) + (nI 96)) Y) fun _ Y1 => some ((), Y1) else bd (fn_297 n (a1 >>> ((nI 5).toInt64 &&& 63)) Y) fun _ Y3 => bd (fn_296 ((((a1 &&& (((nI 31)).toInt64))).toInt32) + (nI 96)) Y3) fun _ Y5 => some ((), Y5))
/-- BallotBusModel.printOrder -/
def fn_298_J42_d1 (l1 : Int32) (Y : Sm) : Option ((Int32 × Sm) ⊕ (Int32 × Sm)) :=
  ck (inb ((nI 10) + l1) 718) <| ck (inb (gI Y.1 52 0 (ix ((nI 10) + l1))) 5) <| bd (fn_297 8 (gJ Y.1 50 0 (ix (gI Y.1 52 0 (ix ((nI 10) + l1))))) Y) fun _ Y8 => bd (fn_167 (gI Y8.1 52 0 4) (gI Y8.1 52 0 (ix ((nI 10) + l1))) Y8) fun v12 Y10 => (if v12 = (nI 0) then some (.inl ((l1 + (nI 1)), Y10)) else bd (fn_296 (nI 42) Y10) fun _ Y13 => some (.inl ((l1 + (nI 1)), Y13)))
def fn_298_L12 (l1 : Int32) (Y : Sm) : Option ((Int32 × Sm) ⊕ (Int32 × Sm)) :=
  (if (gI Y.1 48 0 1) ≤ l1 then some (.inr ((gI Y.1 48 0 41), Y)) else (if l1 ≤ (nI 0) then fn_298_J42_d1 l1 Y else bd (fn_296 (nI 32) Y) fun _ Y15 => bd (fn_296 (nI 62) Y15) fun _ Y17 => bd (fn_296 (nI 32) Y17) fun _ Y19 => fn_298_J42_d1 l1 Y19))
def fn_298 (Y : Sm) : Option (Int32 × Sm) :=
  wr (sI Y 48 0 0 (nI 0)) fun Y1 => wr (sI Y1 48 0 41 (nI 0)) fun Y2 => lp (fun s => fn_298_L12 s.1 s.2) FU ((nI 0), Y2)
/-- BallotBusModel.outputByte -/
def fn_299 (a1 : Int32) (Y : Sm) : Option (Int32 × Sm) :=
  wr (sI Y 48 0 0 (nI 0)) fun Y1 => bd (fn_166 ((a1).toInt64) (Int64.ofNat 0) (((gI Y1.1 48 0 41).toInt64) - (Int64.ofNat 1)) Y1) fun v4 Y2 => (if v4 = (nI 0) then some ((-1 : Int32), Y2) else ck (inb a1 60) <| some ((gI Y2.1 65 0 (ix a1)), Y2))
