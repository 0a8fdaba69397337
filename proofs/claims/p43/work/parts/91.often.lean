/-! WHAT-IFS: often -/
def ofX (day p m : Nat) : Wi := dnX (fun q => decide (q = p)) day (day + m - 1)
def ofB (B : Bk) (a1 a2 : Int32) (day p m : Nat) : Bool := cleanB (B.wx a1 a2 (ofX day p m))
