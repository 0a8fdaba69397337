/-! WHAT-IFS: shield -/
def shW (B : Bk) (a1 a2 : Int32) (x : Nat) : Wd := B.wx a1 a2 (siX x.testBit)
def shP (B : Bk) (a1 a2 : Int32) (p x : Nat) : Bool := !x.testBit p && !anyN 201 (fun e => hold (shW B a1 a2 x) e p)
theorem sh_bit {B : Bk} {a1 a2 : Int32} {p x : Nat} (hn : (B.wd a1 a2).v.n ≤ 16) (hp : p < (B.wd a1 a2).v.n) : bt (evI (shW B a1 a2 x) 201) p = anyN 201 (fun e => hold (shW B a1 a2 x) e p) := by
  unfold evI
  have hp' : p < (shW B a1 a2 x).v.n := hp
  rw [bI_bit _ (show (shW B a1 a2 x).v.n ≤ 32 from Nat.le_trans hn (by omega)), decide_eq_true hp', Bool.true_and]
