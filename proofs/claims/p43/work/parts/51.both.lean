/-! areBoth, takesIn of the reference -/
def hc (h0 h1 : Bool) : Nat := h0.toNat + 2 * h1.toNat
theorem hc_lt (h0 h1 : Bool) : hc h0 h1 < 4 := by cases h0 <;> cases h1 <;> decide
theorem hc_or : ∀ (h0 h1 u v : Bool), (nI (hc h0 h1) ||| nI u.toNat) ||| nI (2 * v.toNat) = nI (hc (h0 || u) (h1 || v)) := by decide
theorem hc_0 : ∀ (h0 h1 : Bool), (nI (hc h0 h1) = nI 0) = (h0 = false ∧ h1 = false) := by decide
theorem hc_2 : ∀ (h0 h1 : Bool), (nI (hc h0 h1) = nI 2) = (h0 = false ∧ h1 = true) := by decide
theorem hc_1 : ∀ (h0 h1 : Bool), (nI (hc h0 h1) = nI 1) = (h0 = true ∧ h1 = false) := by decide
theorem hc_b0 : ∀ (h0 h1 : Bool), bt (nI (hc h0 h1)) 0 = h0 := by decide
theorem hc_b1 : ∀ (h0 h1 : Bool), bt (nI (hc h0 h1)) 1 = h1 := by decide
section
variable {v : Vil} {t : Tel} {x : Wi} {o : Nat} {w : Wd} {b : Bool} {I : MI} {L : ML}
end
