/-! WHAT-IFS: drawn worlds, the class -/
def drX (x : Int32) : Int32 := x * 1103515245 + 12345
def drR (x : Int32) : Int32 := uS (drX x) 16 - uS (drX x) 16 / 10 * 10
def drS (x : Int32) : Nat → Int32
  | 0 => x
  | n + 1 => drX (drS x n)
def drB (v : Vil) (x : Int32) (k : Nat) : Bool := decide (k < v.m) && !decide (drR (drS x k) < nI (v.st k))
