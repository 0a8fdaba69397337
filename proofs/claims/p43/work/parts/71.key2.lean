/-! WHAT-IFS: key, against the reference -/
theorem m_lt : ∀ x, x < 17 → ∀ y, y < 17 → (-nI x < -nI y) = (y < x) := by decide +kernel
theorem m_sub : ∀ b, b < 17 → ∀ x, x < 17 → ∀ y, y < 17 → (nI b - nI x < nI b - nI y) = (y < x) := by decide +kernel
