/-- a day as it opens: what was left -/
def opnP (w : Wd) (d : Nat) (I : MI) : Prop := (∀ p, p < 32 → bt (I 167 d) p = (decide (p < w.v.n) && (stp w d).ha 0 p)) ∧ (∀ p, p < 32 → bt (I 173 d) p = (decide (p < w.v.n) && (stp w d).ha 1 p)) ∧ (∀ p, p < 16 → I 171 (d * 16 + p) = nI (if p < w.v.n then (stp w d).cn 0 p else 0)) ∧ (∀ p, p < 16 → I 177 (d * 16 + p) = nI (if p < w.v.n then (stp w d).cn 1 p else 0)) ∧ ∀ p, p < 16 → I 178 (d * 16 + p) = zI (if p < w.v.n then (stp w d).su p else 0)
theorem ite_same {α : Type} {c : Prop} [Decidable c] (a : α) : (if c then a else a) = a := by split <;> rfl
theorem c_Days_open {w : Wd} {d : Nat} (hd : d ≤ 200) {b : Bool} {I : MI} {L : ML} {K : Bool → MI → ML → Prop} (hr : ∀ e, d = e + 1 → rowC w e I L) (hK : ∀ I', dayI d I I' → opnP w d I' → K b I' L) : CV m_Days_open [vr 11 165, vi (nI d)] b I L K := by
  refine v_Days_open_0 ?_
  refine c_Side_open hd (fun I1 f1 f2 f3 f4 f5 => c_Side_open hd (fun I2 g1 g2 g3 g4 g5 => ?_))
  have day2 : dayI d I I2 := by
    refine ⟨fun a ha => ?_, fun a j ha hj => ?_, fun a j ha hj => ?_⟩
    · rw [g1 a (by omega) (by omega), f1 a (by omega) (by omega)]
    · rcases ha with rfl | rfl | rfl | rfl
      · rw [g1 _ (by omega) (by omega), f2 j hj]
      · rw [g1 _ (by omega) (by omega), f1 _ (by omega) (by omega)]
      · rw [g2 j hj, f1 _ (by omega) (by omega)]
      · rw [g1 _ (by omega) (by omega), f1 _ (by omega) (by omega)]
    · rcases ha with rfl | rfl | rfl | rfl | rfl
      · rw [g1 _ (by omega) (by omega), f1 _ (by omega) (by omega)]
      · rw [g1 _ (by omega) (by omega), f4 j hj]
      · rw [g1 _ (by omega) (by omega), f1 _ (by omega) (by omega)]
      · rw [g4 j hj, f1 _ (by omega) (by omega)]
      · rw [g1 _ (by omega) (by omega), f1 _ (by omega) (by omega)]
  have e167 : I2 167 d = if d = 0 then nI 0 else I 167 (d - 1) := by rw [g1 _ (by omega) (by omega)]; exact f3
  have e173 : I2 173 d = if d = 0 then nI 0 else I 173 (d - 1) := by rw [g3, f1 _ (by omega) (by omega)]
  have e171 : ∀ p, p < 16 → I2 171 (d * 16 + p) = if d = 0 then nI 0 else I 171 ((d - 1) * 16 + p) := fun p hp => by rw [g1 _ (by omega) (by omega)]; exact f5 p hp
  have e177 : ∀ p, p < 16 → I2 177 (d * 16 + p) = if d = 0 then nI 0 else I 177 ((d - 1) * 16 + p) := fun p hp => by rw [g5 p hp, f1 _ (by omega) (by omega)]
  have e178 : I2 178 = I 178 := by rw [g1 _ (by omega) (by omega), f1 _ (by omega) (by omega)]
  by_cases h : d = 0
  · subst h
    simp (disch := first | omega | assumption) only [n_lit, n_gLt, n_gLe, n_gEq, n_gEq2, n_gLe2, n_gLt2, n_m1, n_add, n_mul, n_lt, n_le, n_eq, n_cl, n_in, n_rem, n_mlt, n_mle, n_ltm, n_lem, n_eqm, n_meq, n_bit, n_shl, n_b0, n_b1, n_sub, n_inT, nT, nF, lT, lF, eT, eF, not_false_eq_true, not_true_eq_false, sI_at, sI_c, sI_j, aI_at, aI_c, sL_at, sL_c, sL_j, true_and, and_true, not_true_eq_false, not_false_eq_true, forall_const, true_implies, false_implies, implies_true, if_true, if_false, ite_true, ite_false, Bool.not_eq_true, Bool.not_eq_false, Bool.true_eq_false, Bool.false_eq_true, false_and, and_false, or_true, true_or, false_or, or_false]
    refine c_fillR (fun I' h1 h2 h3 => hK I' (day2.trans ⟨fun a ha => h1 a (by omega), fun a j ha hj => by rw [h1 a (by omega)], fun a j ha hj => ?_⟩) ⟨fun p hp => ?_, fun p hp => ?_, fun p hp => ?_, fun p hp => ?_, fun p hp => ?_⟩)
    · by_cases e : a = 178
      · subst e; exact h3 j (by omega)
      · rw [h1 a e]
    · rw [h1 _ (by decide), e167, if_pos rfl, b_0]
      exact (Bool.and_false _).symm
    · rw [h1 _ (by decide), e173, if_pos rfl, b_0]
      exact (Bool.and_false _).symm
    · rw [h1 _ (by decide), e171 p hp, if_pos rfl]
      exact congrArg nI (ite_same (c := p < w.v.n) 0).symm
    · rw [h1 _ (by decide), e177 p hp, if_pos rfl]
      exact congrArg nI (ite_same (c := p < w.v.n) 0).symm
    · rw [Nat.zero_mul, Nat.zero_add, h2 p hp]
      exact congrArg zI (ite_same (c := p < w.v.n) 0).symm
  · obtain ⟨e, rfl⟩ : ∃ e, d = e + 1 := ⟨d - 1, by omega⟩
    obtain ⟨⟨a1, a2, a3, a4, a5⟩, ⟨c1, c2, c3, c4, c5⟩, q3, q4⟩ := hr e rfl
    rw [if_neg h] at e167 e173
    simp (disch := first | omega | assumption) only [n_lit, n_gLt, n_gLe, n_gEq, n_gEq2, n_gLe2, n_gLt2, n_m1, n_add, n_mul, n_lt, n_le, n_eq, n_cl, n_in, n_rem, n_mlt, n_mle, n_ltm, n_lem, n_eqm, n_meq, n_bit, n_shl, n_b0, n_b1, n_sub, n_inT, nT, nF, lT, lF, eT, eF, not_false_eq_true, not_true_eq_false, sI_at, sI_c, sI_j, aI_at, aI_c, sL_at, sL_c, sL_j, true_and, and_true, not_true_eq_false, not_false_eq_true, forall_const, true_implies, false_implies, implies_true, if_true, if_false, ite_true, ite_false, Bool.not_eq_true, Bool.not_eq_false, Bool.true_eq_false, Bool.false_eq_true, false_and, and_false, or_true, true_or, false_or, or_false]
    refine hK _ (day2.trans ⟨fun a ha => ?_, fun a j ha hj => ?_, fun a j ha hj => ?_⟩) ⟨fun p hp => ?_, fun p hp => ?_, fun p hp => ?_, fun p hp => ?_, fun p hp => ?_⟩
    · simp (disch := first | omega | assumption) only [sI_at, sI_c, sI_j, aI_at, aI_c, sL_at, sL_c, sL_j]
    · simp (disch := first | omega | assumption) only [sI_at, sI_c, sI_j, aI_at, aI_c, sL_at, sL_c, sL_j]
    · by_cases c : a = 178
      · subst c
        simp (disch := first | omega | assumption) only [sI_at, sI_c, sI_j, aI_at, aI_c, sL_at, sL_c, sL_j]
        rw [cpyS, if_neg (by omega)]
      · simp (disch := first | omega | assumption) only [sI_at, sI_c, sI_j, aI_at, aI_c, sL_at, sL_c, sL_j]
    · simp (disch := first | omega | assumption) only [sI_at, sI_c, sI_j, aI_at, aI_c, sL_at, sL_c, sL_j]
      rw [e167]
      exact a1 p hp
    · simp (disch := first | omega | assumption) only [sI_at, sI_c, sI_j, aI_at, aI_c, sL_at, sL_c, sL_j]
      rw [e173]
      exact c1 p hp
    · simp (disch := first | omega | assumption) only [sI_at, sI_c, sI_j, aI_at, aI_c, sL_at, sL_c, sL_j]
      rw [e171 p hp, if_neg h]
      exact a5 p hp
    · simp (disch := first | omega | assumption) only [sI_at, sI_c, sI_j, aI_at, aI_c, sL_at, sL_c, sL_j]
      rw [e177 p hp, if_neg h]
      exact c5 p hp
    · simp (disch := first | omega | assumption) only [sI_at, sI_c, sI_j, aI_at, aI_c, sL_at, sL_c, sL_j]
      rw [cpyS, if_pos (by omega), Nat.add_sub_cancel_left, e178]
      exact q3 p hp
