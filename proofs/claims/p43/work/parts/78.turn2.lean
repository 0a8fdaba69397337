/-! WHAT-IFS: turn, against the reference -/
theorem lsN_lt {e : Nat → Nat} : ∀ {n j : Nat}, lsN e n = some j → j < n
  | 0, j, h => by cases h
  | n + 1, j, h => by
    unfold lsN at h
    cases q : lsN e n with
    | none =>
      rw [q] at h
      have : some n = some j := h
      cases this
      omega
    | some z =>
      rw [q] at h
      have h : (if e n < e z then some n else some z) = some j := h
      have := lsN_lt q
      split at h <;> cases h <;> omega
theorem lsN_some {e : Nat → Nat} (he : ∀ i, e i ≤ 16) : ∀ {n : Nat}, 1 ≤ n → ∃ j, lsN e n = some j
  | 0, h => by omega
  | n + 1, _ => by
    obtain ⟨n1, n2⟩ := lsN_next (n := n) he
    by_cases c : lsV e (lsN e n) ≤ e n
    · cases q : lsN e n with
      | none =>
        rw [q] at c
        have c : 1000 ≤ e n := c
        have := he n
        omega
      | some j => exact ⟨j, (n1 c).trans q⟩
    · exact ⟨n, n2 c⟩
