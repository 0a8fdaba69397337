/-! QUESTIONS of a run: wavers -/
theorem hc_le (a c : Bool) : hc a c ≤ 3 := by cases a <;> cases c <;> decide
def hcD (w : Wd) (p d : Nat) : Nat := hc ((stt w d).ha 0 p) ((stt w d).ha 1 p)
theorem hcD_le (w : Wd) (p d : Nat) : hcD w p d ≤ 3 := hc_le _ _
def wavN (w : Wd) (p : Nat) : Nat → Nat
  | 0 => if hcD w p 0 = 0 then 0 else 1
  | n + 1 => wavN w p n + (if hcD w p (n + 1) = hcD w p n then 0 else 1)
theorem wavN_le (w : Wd) (p : Nat) : ∀ n, wavN w p n ≤ n + 1
  | 0 => by unfold wavN; split <;> omega
  | n + 1 => by
    unfold wavN
    have := wavN_le w p n
    split <;> omega
