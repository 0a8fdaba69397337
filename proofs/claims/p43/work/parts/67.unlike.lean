/-! QUESTIONS of two tellings: unlike -/
def ulO (w1 w2 : Wd) (n lo : Nat) : Option Nat := fstN (fun d => decide (¬ hdI w1 d = hdI w2 d)) n lo
theorem tk_vil {B : Bk} {a1 a2 a3 : Int32} (ok : B.ok) (h2 : tkB B a1 a2 = true) : tkB B a1 a3 = true ↔ (a3 = nM ∨ ∃ j, j < B.nt ∧ a3 = nI j) := by
  rw [tkB_iff ok]
  exact ⟨fun h => h.2, fun h => ⟨((tkB_iff ok).mp h2).1, h⟩⟩
