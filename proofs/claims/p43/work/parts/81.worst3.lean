/-! WHAT-IFS: worst, against the reference -/
def woE (B : Bk) (a1 a2 : Int32) (q p : Nat) : Nat := if q ≤ 1 then woA B a1 a2 p else woL B a1 a2 p
