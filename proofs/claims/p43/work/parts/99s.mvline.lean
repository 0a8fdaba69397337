/-! TEXTS: the reference's village line, whole -/
theorem Qb0_r {I : MI} {j : Nat} {v : Int32} (h : j ≠ 1) (q : Qb 0 I) : Qb 0 (sI I 189 j v) := q.r h
theorem fulB_v {i : Nat} {S : Sm} (h : i ≠ 8) (h2 : i < 11) : fulB i S = false := by
  unfold fulB
  rw [decide_eq_false (by omega), decide_eq_false (by omega)]
  rfl
theorem accW_n1 {i a x w : Nat} {S : Sm} (h : S.fl ≠ 1) : (accW i a x w S).fl ≠ 1 := by
  by_cases h0 : S.fl = 0
  · cases c : mayW i a x S.nb with
    | true =>
      rw [(accW_0 h0 c).1]
      decide
    | false =>
      rw [accW_1 h0 c]
      exact blm_n1 (by omega) h
  · rw [accW_2 h0]
    exact h
theorem ful_n1 {i p : Nat} {S : Sm} (h : S.fl ≠ 1) : (ful i p S).fl ≠ 1 := by
  unfold ful
  by_cases c : fulB i S = true
  · rw [if_pos c]
    exact blm_n1 (by omega) h
  · rw [if_neg c]
    exact h
theorem nmL_n1 {y : Nat → Nat} {n i : Nat} : ∀ f w a S, S.fl ≠ 1 → (nmL y n i f w a S).2.2.fl ≠ 1
  | 0, _, _, _, h => h
  | f + 1, w, a, S, h => by
    unfold nmL
    by_cases c : kin y n w = 2 ∧ (a < needW i ∨ isKW i = true)
    · rw [if_pos c]
      exact nmL_n1 f _ _ _ (accW_n1 h)
    · rw [if_neg c]
      exact h
