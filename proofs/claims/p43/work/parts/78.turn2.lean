/-! WHAT-IFS: turn, against the reference -/
theorem WM_kd {v : Vil} {t : Tel} {o p d : Nat} {I1 I' : MI} {L1 L' : ML} (W : WM v t wi0 o (mkW v v.m t wi0) I1 L1) (P : plP I1) (h2 : d ≤ 5) (S : sameP I1 I' L1 L') (e17 : I' 186 17 = nI p) (e18 : I' 186 18 = nI d) (e19 : I' 186 19 = nM) (hp : p < 16) : WM v t wi0 o (tuW v t d p) I' L' := by
  obtain ⟨⟨a1, a2, a3, a4, a5⟩, ⟨b1, b2, b3⟩, c1, d1, e1⟩ := W
  obtain ⟨s1, s2, s3⟩ := S
  refine ⟨⟨rfl, setKd_ok a2 h2, a3, a4, a5⟩, ⟨b1, (s1 11 (by omega) (by omega) (by omega) (by omega)).trans b2, vilM_fr s2 b3⟩, ?_, ?_, ?_⟩
  · unfold rtP telM at c1 ⊢
    rw [s2, s1 12 (by omega) (by omega) (by omega) (by omega)]
    exact c1
  · unfold rxP at d1 ⊢
    rw [s1 26 (by omega) (by omega) (by omega) (by omega), s1 25 (by omega) (by omega) (by omega) (by omega), s1 13 (by omega) (by omega) (by omega) (by omega), s1 14 (by omega) (by omega) (by omega) (by omega), s1 15 (by omega) (by omega) (by omega) (by omega), s1 16 (by omega) (by omega) (by omega) (by omega), s1 22 (by omega) (by omega) (by omega) (by omega), s3]
    exact d1
  · refine ⟨⟨rfl, rfl, rfl, rfl⟩, fun k hk => ⟨rfl, rfl, rfl, rfl⟩, fun q hq => ?_, fun q hq => Or.inr ⟨Or.inr ?_, rfl⟩, Or.inl ⟨?_, rfl⟩⟩
    · rw [e17, e18]
      show (nI p = nI q ∧ nI d = nI (if q = p then d else v.kd q)) ∨ ((¬ nI q = nI p ∨ nI d < nI 0) ∧ (if q = p then d else v.kd q) = v.kd q)
      by_cases c : q = p
      · subst c
        rw [if_pos rfl]
        exact Or.inl ⟨rfl, rfl⟩
      · rw [if_neg c]
        refine Or.inr ⟨Or.inl ?_, rfl⟩
        rw [n_eq (by omega) (by omega)]
        exact c
    · rw [e19]
      decide
    · rw [s1 23 (by omega) (by omega) (by omega) (by omega)]
      exact P.2.2.2.1
theorem lsN_lt {e : Nat → Nat} : ∀ {n j : Nat}, lsN e n = some j → j < n
  | 0, j, h => by cases h
  | n + 1, j, h => by
    unfold lsN at h
    cases q : lsN e n with
    | none =>
      rw [q] at h
      have : some n = some j := h
      cases this
      omega
    | some z =>
      rw [q] at h
      have h : (if e n < e z then some n else some z) = some j := h
      have := lsN_lt q
      split at h <;> cases h <;> omega
theorem lsN_some {e : Nat → Nat} (he : ∀ i, e i ≤ 16) : ∀ {n : Nat}, 1 ≤ n → ∃ j, lsN e n = some j
  | 0, h => by omega
  | n + 1, _ => by
    obtain ⟨n1, n2⟩ := lsN_next (n := n) he
    by_cases c : lsV e (lsN e n) ≤ e n
    · cases q : lsN e n with
      | none =>
        rw [q] at c
        have c : 1000 ≤ e n := c
        have := he n
        omega
      | some j => exact ⟨j, (n1 c).trans q⟩
    · exact ⟨n, n2 c⟩
