def txn : Nat := txl.length
/-- the words of the tables -/
def jxl : List Cond := ([208, 209, 214, 215] : List Nat).map (fun x => Cond.selects "java/lang/StringBuilder" (nmy x) (nmy x))
def TT : List Cond := (lw_tbl ++ jxl).filter goodWord
theorem TT_in {w : Cond} (h : w ∈ lw_tbl) (hg : goodWord w = true) : w ∈ TT := List.mem_filter.mpr ⟨List.mem_append_left _ h, hg⟩
theorem jx_in {x : Nat} (h : x ∈ ([208, 209, 214, 215] : List Nat)) : Cond.selects "java/lang/StringBuilder" (nmy x) (nmy x) ∈ TT := List.mem_filter.mpr ⟨List.mem_append_right _ (List.mem_map.mpr ⟨x, h, rfl⟩), rfl⟩
def isIni (y : Nat) : Bool := decide ((nmy y).name = "<init>")
def hdw (y : Nat) : Cond := .code (nmy y) (byt y) (mxl y) (rtt y)
def wsy (y : Nat) : List Cond := hdw y :: TT
