/-! WHAT-IFS: drawn worlds, the class: holders, clean -/
def drW (B : Bk) (a1 a2 x : Int32) : Wd := B.wx a1 a2 (wi0.wdd (drB (B.wd a1 a2).v x))
