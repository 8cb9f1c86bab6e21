def txn : Nat := txl.length
/-- the words of the tables -/
def TT : List Cond := lw_tbl.filter goodWord
theorem TT_in {w : Cond} (h : w ∈ lw_tbl) (hg : goodWord w = true) : w ∈ TT := List.mem_filter.mpr ⟨h, hg⟩
def isIni (y : Nat) : Bool := decide ((nmy y).name = "<init>")
def hdw (y : Nat) : Cond := .code (nmy y) (byt y) (mxl y) (rtt y)
def wsy (y : Nat) : List Cond := hdw y :: TT
