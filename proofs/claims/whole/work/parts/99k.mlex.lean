/-! TEXTS: the reference's tokens -/
theorem cm_three {a b' c : Nat} {b : Bool} {I : MI} {L : ML} {K : Int32 → Bool → MI → ML → Prop} (hK : K (nI ((a * 32 + b') * 32 + c)) b I L) : CI m_M_three [vi (nI a), vi (nI b'), vi (nI c)] b I L K := by
  refine v_M_three_0 ?_
  rw [show (32 : Int32) = nI 32 from rfl, n_mul, n_add, n_mul, n_add]
  exact hK
theorem cm_six {a b' c d e f : Nat} {b : Bool} {I : MI} {L : ML} {K : Int32 → Bool → MI → ML → Prop} (hK : K (nI (((a * 32 + b') * 32 + c) * 32768 + ((d * 32 + e) * 32 + f))) b I L) : CI m_M_six [vi (nI a), vi (nI b'), vi (nI c), vi (nI d), vi (nI e), vi (nI f)] b I L K := by
  refine v_M_six_0 (cm_three (cm_three ?_))
  rw [show (32768 : Int32) = nI 32768 from rfl, n_mul, n_add]
  exact hK
def isC (x i : Nat) : Bool := decide (x = cod (nmW i) 0)
def wcO : Option Nat → Nat
  | some i => i + 1
  | none => 99
set_option maxHeartbeats 4000000 in
theorem cm_wordOf {x : Nat} (hx : x < 2147483648) {b : Bool} {I : MI} {L : ML} {K : Int32 → Bool → MI → ML → Prop} (hK : K (nI (wcO (fstN (isC x) 14 0))) b I L) : CI m_M_wordOf [vi (nI x)] b I L K := by
  refine v_M_wordOf_0 ?_
  refine cm_six (a := 16) (b' := 5) (c := 15) (d := 16) (e := 12) (f := 5) ?_
  rw [show ((16 * 32 + 5) * 32 + 15) * 32768 + ((16 * 32 + 12) * 32 + 5) = cod (nmW 0) 0 from by decide, n_eq hx (show cod (nmW 0) 0 < 2147483648 by decide)]
  refine ⟨fun z => ?_, fun z => ?_⟩
  rotate_left
  · rw [show fstN (isC x) 14 0 = some 0 from if_pos (decide_eq_true (Decidable.not_not.mp z))] at hK
    exact hK
  rw [show fstN (isC x) 14 0 = fstN (isC x) 13 1 from if_neg (show ¬ isC x 0 = true by unfold isC; rw [decide_eq_false z]; exact Bool.false_ne_true)] at hK
  refine cm_six (a := 0) (b' := 6) (c := 9) (d := 18) (e := 19) (f := 20) ?_
  rw [show ((0 * 32 + 6) * 32 + 9) * 32768 + ((18 * 32 + 19) * 32 + 20) = cod (nmW 1) 0 from by decide, n_eq hx (show cod (nmW 1) 0 < 2147483648 by decide)]
  refine ⟨fun z => ?_, fun z => ?_⟩
  rotate_left
  · rw [show fstN (isC x) 13 1 = some 1 from if_pos (decide_eq_true (Decidable.not_not.mp z))] at hK
    exact hK
  rw [show fstN (isC x) 13 1 = fstN (isC x) 12 2 from if_neg (show ¬ isC x 1 = true by unfold isC; rw [decide_eq_false z]; exact Bool.false_ne_true)] at hK
  refine cm_six (a := 0) (b' := 0) (c := 12) (d := 1) (e := 19) (f := 20) ?_
  rw [show ((0 * 32 + 0) * 32 + 12) * 32768 + ((1 * 32 + 19) * 32 + 20) = cod (nmW 2) 0 from by decide, n_eq hx (show cod (nmW 2) 0 < 2147483648 by decide)]
  refine ⟨fun z => ?_, fun z => ?_⟩
  rotate_left
  · rw [show fstN (isC x) 12 2 = some 2 from if_pos (decide_eq_true (Decidable.not_not.mp z))] at hK
    exact hK
  rw [show fstN (isC x) 12 2 = fstN (isC x) 11 3 from if_neg (show ¬ isC x 2 = true by unfold isC; rw [decide_eq_false z]; exact Bool.false_ne_true)] at hK
  refine cm_six (a := 0) (b' := 0) (c := 13) (d := 15) (e := 19) (f := 20) ?_
  rw [show ((0 * 32 + 0) * 32 + 13) * 32768 + ((15 * 32 + 19) * 32 + 20) = cod (nmW 3) 0 from by decide, n_eq hx (show cod (nmW 3) 0 < 2147483648 by decide)]
  refine ⟨fun z => ?_, fun z => ?_⟩
  rotate_left
  · rw [show fstN (isC x) 11 3 = some 3 from if_pos (decide_eq_true (Decidable.not_not.mp z))] at hK
    exact hK
  rw [show fstN (isC x) 11 3 = fstN (isC x) 10 4 from if_neg (show ¬ isC x 3 = true by unfold isC; rw [decide_eq_false z]; exact Bool.false_ne_true)] at hK
  refine cm_six (a := 0) (b' := 0) (c := 20) (d := 9) (e := 12) (f := 12) ?_
  rw [show ((0 * 32 + 0) * 32 + 20) * 32768 + ((9 * 32 + 12) * 32 + 12) = cod (nmW 4) 0 from by decide, n_eq hx (show cod (nmW 4) 0 < 2147483648 by decide)]
  refine ⟨fun z => ?_, fun z => ?_⟩
  rotate_left
  · rw [show fstN (isC x) 10 4 = some 4 from if_pos (decide_eq_true (Decidable.not_not.mp z))] at hK
    exact hK
  rw [show fstN (isC x) 10 4 = fstN (isC x) 9 5 from if_neg (show ¬ isC x 4 = true by unfold isC; rw [decide_eq_false z]; exact Bool.false_ne_true)] at hK
  refine cm_six (a := 0) (b' := 0) (c := 2) (d := 15) (e := 20) (f := 8) ?_
  rw [show ((0 * 32 + 0) * 32 + 2) * 32768 + ((15 * 32 + 20) * 32 + 8) = cod (nmW 5) 0 from by decide, n_eq hx (show cod (nmW 5) 0 < 2147483648 by decide)]
  refine ⟨fun z => ?_, fun z => ?_⟩
  rotate_left
  · rw [show fstN (isC x) 9 5 = some 5 from if_pos (decide_eq_true (Decidable.not_not.mp z))] at hK
    exact hK
  rw [show fstN (isC x) 9 5 = fstN (isC x) 8 6 from if_neg (show ¬ isC x 5 = true by unfold isC; rw [decide_eq_false z]; exact Bool.false_ne_true)] at hK
  refine cm_six (a := 0) (b' := 0) (c := 15) (d := 14) (e := 3) (f := 5) ?_
  rw [show ((0 * 32 + 0) * 32 + 15) * 32768 + ((14 * 32 + 3) * 32 + 5) = cod (nmW 6) 0 from by decide, n_eq hx (show cod (nmW 6) 0 < 2147483648 by decide)]
  refine ⟨fun z => ?_, fun z => ?_⟩
  rotate_left
  · rw [show fstN (isC x) 8 6 = some 6 from if_pos (decide_eq_true (Decidable.not_not.mp z))] at hK
    exact hK
  rw [show fstN (isC x) 8 6 = fstN (isC x) 7 7 from if_neg (show ¬ isC x 6 = true by unfold isC; rw [decide_eq_false z]; exact Bool.false_ne_true)] at hK
  refine cm_six (a := 0) (b' := 4) (c := 15) (d := 21) (e := 2) (f := 20) ?_
  rw [show ((0 * 32 + 4) * 32 + 15) * 32768 + ((21 * 32 + 2) * 32 + 20) = cod (nmW 7) 0 from by decide, n_eq hx (show cod (nmW 7) 0 < 2147483648 by decide)]
  refine ⟨fun z => ?_, fun z => ?_⟩
  rotate_left
  · rw [show fstN (isC x) 7 7 = some 7 from if_pos (decide_eq_true (Decidable.not_not.mp z))] at hK
    exact hK
  rw [show fstN (isC x) 7 7 = fstN (isC x) 6 8 from if_neg (show ¬ isC x 7 = true by unfold isC; rw [decide_eq_false z]; exact Bool.false_ne_true)] at hK
  refine cm_three (a := 20) (b' := 9) (c := 5) ?_
  rw [show (20 * 32 + 9) * 32 + 5 = cod (nmW 8) 0 from by decide, n_eq hx (show cod (nmW 8) 0 < 2147483648 by decide)]
  refine ⟨fun z => ?_, fun z => ?_⟩
  rotate_left
  · rw [show fstN (isC x) 6 8 = some 8 from if_pos (decide_eq_true (Decidable.not_not.mp z))] at hK
    exact hK
  rw [show fstN (isC x) 6 8 = fstN (isC x) 5 9 from if_neg (show ¬ isC x 8 = true by unfold isC; rw [decide_eq_false z]; exact Bool.false_ne_true)] at hK
  refine cm_six (a := 0) (b' := 0) (c := 19) (d := 12) (e := 15) (f := 23) ?_
  rw [show ((0 * 32 + 0) * 32 + 19) * 32768 + ((12 * 32 + 15) * 32 + 23) = cod (nmW 9) 0 from by decide, n_eq hx (show cod (nmW 9) 0 < 2147483648 by decide)]
  refine ⟨fun z => ?_, fun z => ?_⟩
  rotate_left
  · rw [show fstN (isC x) 5 9 = some 9 from if_pos (decide_eq_true (Decidable.not_not.mp z))] at hK
    exact hK
  rw [show fstN (isC x) 5 9 = fstN (isC x) 4 10 from if_neg (show ¬ isC x 9 = true by unfold isC; rw [decide_eq_false z]; exact Bool.false_ne_true)] at hK
  refine cm_six (a := 0) (b' := 20) (c := 9) (d := 18) (e := 5) (f := 19) ?_
  rw [show ((0 * 32 + 20) * 32 + 9) * 32768 + ((18 * 32 + 5) * 32 + 19) = cod (nmW 10) 0 from by decide, n_eq hx (show cod (nmW 10) 0 < 2147483648 by decide)]
  refine ⟨fun z => ?_, fun z => ?_⟩
  rotate_left
  · rw [show fstN (isC x) 4 10 = some 10 from if_pos (decide_eq_true (Decidable.not_not.mp z))] at hK
    exact hK
  rw [show fstN (isC x) 4 10 = fstN (isC x) 3 11 from if_neg (show ¬ isC x 10 = true by unfold isC; rw [decide_eq_false z]; exact Bool.false_ne_true)] at hK
  refine cm_six (a := 0) (b' := 0) (c := 23) (d := 15) (e := 18) (f := 4) ?_
  rw [show ((0 * 32 + 0) * 32 + 23) * 32768 + ((15 * 32 + 18) * 32 + 4) = cod (nmW 11) 0 from by decide, n_eq hx (show cod (nmW 11) 0 < 2147483648 by decide)]
  refine ⟨fun z => ?_, fun z => ?_⟩
  rotate_left
  · rw [show fstN (isC x) 3 11 = some 11 from if_pos (decide_eq_true (Decidable.not_not.mp z))] at hK
    exact hK
  rw [show fstN (isC x) 3 11 = fstN (isC x) 2 12 from if_neg (show ¬ isC x 11 = true by unfold isC; rw [decide_eq_false z]; exact Bool.false_ne_true)] at hK
  refine cm_six (a := 0) (b' := 0) (c := 4) (d := 5) (e := 14) (f := 25) ?_
  rw [show ((0 * 32 + 0) * 32 + 4) * 32768 + ((5 * 32 + 14) * 32 + 25) = cod (nmW 12) 0 from by decide, n_eq hx (show cod (nmW 12) 0 < 2147483648 by decide)]
  refine ⟨fun z => ?_, fun z => ?_⟩
  rotate_left
  · rw [show fstN (isC x) 2 12 = some 12 from if_pos (decide_eq_true (Decidable.not_not.mp z))] at hK
    exact hK
  rw [show fstN (isC x) 2 12 = fstN (isC x) 1 13 from if_neg (show ¬ isC x 12 = true by unfold isC; rw [decide_eq_false z]; exact Bool.false_ne_true)] at hK
  refine cm_six (a := 0) (b' := 0) (c := 23) (d := 1) (e := 12) (f := 12) ?_
  rw [show ((0 * 32 + 0) * 32 + 23) * 32768 + ((1 * 32 + 12) * 32 + 12) = cod (nmW 13) 0 from by decide, n_eq hx (show cod (nmW 13) 0 < 2147483648 by decide)]
  refine ⟨fun z => ?_, fun z => ?_⟩
  rotate_left
  · rw [show fstN (isC x) 1 13 = some 13 from if_pos (decide_eq_true (Decidable.not_not.mp z))] at hK
    exact hK
  rw [show fstN (isC x) 1 13 = fstN (isC x) 0 14 from if_neg (show ¬ isC x 13 = true by unfold isC; rw [decide_eq_false z]; exact Bool.false_ne_true)] at hK
  exact hK
/-- the tape of the reference -/
def PM (y : Nat → Nat) (n : Nat) (I : MI) : Prop := (I 186 2 = nI n ∧ n ≤ 600) ∧ (∀ j, j < n → I 187 (10 + j) = nI (y j)) ∧ ∀ j, j < n → y j < 256
theorem cm_byteAt {y : Nat → Nat} {n p : Nat} {I : MI} (T : PM y n I) (hp : p ≤ 601) {b : Bool} {L : ML} {K : Int32 → Bool → MI → ML → Prop} (h1 : p < n → K (nI (y p)) b I L) (h2 : n ≤ p → K nM b I L) : CI m_M_byteAt [vr 22 186, vi (nI p)] b I L K := by
  obtain ⟨⟨t1, t2⟩, t3, t4⟩ := T
  refine v_M_byteAt_0 ?_
  rw [t1, n_le (by omega) (by omega), show (10 : Int32) + nI p = nI (10 + p) from n_add 10 p]
  refine ⟨fun q => h2 q, fun q => ⟨by rw [n_in (by omega)]; omega, ?_⟩⟩
  rw [n_cl (by omega), t3 p (by omega)]
  exact h1 (by omega)
theorem cm_isLetter {c : Nat} (hc : c < 2147483648) {b : Bool} {I : MI} {L : ML} {K : Int32 → Bool → MI → ML → Prop} (hK : K (nI (isLt c).toNat) b I L) : CI m_M_isLetter [vi (nI c)] b I L K := by
  refine v_M_isLetter_0 ?_
  unfold isLt at hK
  by_cases h1 : 97 ≤ c
  · by_cases h2 : c ≤ 122
    · rw [decide_eq_true h1, decide_eq_true h2] at hK
      have hK : K (nI 1) b I L := hK
      simp (disch := first | omega | assumption) only [n_lit, n_gLt, n_gLe, n_gEq, n_gEq2, n_gLe2, n_gLt2, n_m1, n_add, n_mul, n_lt, n_le, n_eq, n_cl, n_in, n_rem, n_mlt, n_mle, n_ltm, n_lem, n_eqm, n_meq, n_bit, n_shl, n_b0, n_b1, n_sub, n_inT, nT, nF, lT, lF, eT, eF, not_false_eq_true, not_true_eq_false, sI_at, sI_c, sI_j, aI_at, aI_c, sL_at, sL_c, sL_j, true_and, and_true, not_true_eq_false, not_false_eq_true, forall_const, true_implies, false_implies, implies_true, if_true, if_false, ite_true, ite_false, Bool.not_eq_true, Bool.not_eq_false, Bool.true_eq_false, Bool.false_eq_true, false_and, and_false, or_true, true_or, false_or, or_false]
      exact hK
    · rw [decide_eq_false h2, Bool.and_false] at hK
      have hK : K (nI 0) b I L := hK
      simp (disch := first | omega | assumption) only [n_lit, n_gLt, n_gLe, n_gEq, n_gEq2, n_gLe2, n_gLt2, n_m1, n_add, n_mul, n_lt, n_le, n_eq, n_cl, n_in, n_rem, n_mlt, n_mle, n_ltm, n_lem, n_eqm, n_meq, n_bit, n_shl, n_b0, n_b1, n_sub, n_inT, nT, nF, lT, lF, eT, eF, not_false_eq_true, not_true_eq_false, sI_at, sI_c, sI_j, aI_at, aI_c, sL_at, sL_c, sL_j, true_and, and_true, not_true_eq_false, not_false_eq_true, forall_const, true_implies, false_implies, implies_true, if_true, if_false, ite_true, ite_false, Bool.not_eq_true, Bool.not_eq_false, Bool.true_eq_false, Bool.false_eq_true, false_and, and_false, or_true, true_or, false_or, or_false]
      exact hK
  · rw [decide_eq_false h1, Bool.false_and] at hK
    have hK : K (nI 0) b I L := hK
    simp (disch := first | omega | assumption) only [n_lit, n_gLt, n_gLe, n_gEq, n_gEq2, n_gLe2, n_gLt2, n_m1, n_add, n_mul, n_lt, n_le, n_eq, n_cl, n_in, n_rem, n_mlt, n_mle, n_ltm, n_lem, n_eqm, n_meq, n_bit, n_shl, n_b0, n_b1, n_sub, n_inT, nT, nF, lT, lF, eT, eF, not_false_eq_true, not_true_eq_false, sI_at, sI_c, sI_j, aI_at, aI_c, sL_at, sL_c, sL_j, true_and, and_true, not_true_eq_false, not_false_eq_true, forall_const, true_implies, false_implies, implies_true, if_true, if_false, ite_true, ite_false, Bool.not_eq_true, Bool.not_eq_false, Bool.true_eq_false, Bool.false_eq_true, false_and, and_false, or_true, true_or, false_or, or_false]
    exact hK
theorem cm_isDigit {c : Nat} (hc : c < 2147483648) {b : Bool} {I : MI} {L : ML} {K : Int32 → Bool → MI → ML → Prop} (hK : K (nI (isDg c).toNat) b I L) : CI m_M_isDigit [vi (nI c)] b I L K := by
  refine v_M_isDigit_0 ?_
  unfold isDg at hK
  by_cases h1 : 48 ≤ c
  · by_cases h2 : c ≤ 57
    · rw [decide_eq_true h1, decide_eq_true h2] at hK
      have hK : K (nI 1) b I L := hK
      simp (disch := first | omega | assumption) only [n_lit, n_gLt, n_gLe, n_gEq, n_gEq2, n_gLe2, n_gLt2, n_m1, n_add, n_mul, n_lt, n_le, n_eq, n_cl, n_in, n_rem, n_mlt, n_mle, n_ltm, n_lem, n_eqm, n_meq, n_bit, n_shl, n_b0, n_b1, n_sub, n_inT, nT, nF, lT, lF, eT, eF, not_false_eq_true, not_true_eq_false, sI_at, sI_c, sI_j, aI_at, aI_c, sL_at, sL_c, sL_j, true_and, and_true, not_true_eq_false, not_false_eq_true, forall_const, true_implies, false_implies, implies_true, if_true, if_false, ite_true, ite_false, Bool.not_eq_true, Bool.not_eq_false, Bool.true_eq_false, Bool.false_eq_true, false_and, and_false, or_true, true_or, false_or, or_false]
      exact hK
    · rw [decide_eq_false h2, Bool.and_false] at hK
      have hK : K (nI 0) b I L := hK
      simp (disch := first | omega | assumption) only [n_lit, n_gLt, n_gLe, n_gEq, n_gEq2, n_gLe2, n_gLt2, n_m1, n_add, n_mul, n_lt, n_le, n_eq, n_cl, n_in, n_rem, n_mlt, n_mle, n_ltm, n_lem, n_eqm, n_meq, n_bit, n_shl, n_b0, n_b1, n_sub, n_inT, nT, nF, lT, lF, eT, eF, not_false_eq_true, not_true_eq_false, sI_at, sI_c, sI_j, aI_at, aI_c, sL_at, sL_c, sL_j, true_and, and_true, not_true_eq_false, not_false_eq_true, forall_const, true_implies, false_implies, implies_true, if_true, if_false, ite_true, ite_false, Bool.not_eq_true, Bool.not_eq_false, Bool.true_eq_false, Bool.false_eq_true, false_and, and_false, or_true, true_or, false_or, or_false]
      exact hK
  · rw [decide_eq_false h1, Bool.false_and] at hK
    have hK : K (nI 0) b I L := hK
    simp (disch := first | omega | assumption) only [n_lit, n_gLt, n_gLe, n_gEq, n_gEq2, n_gLe2, n_gLt2, n_m1, n_add, n_mul, n_lt, n_le, n_eq, n_cl, n_in, n_rem, n_mlt, n_mle, n_ltm, n_lem, n_eqm, n_meq, n_bit, n_shl, n_b0, n_b1, n_sub, n_inT, nT, nF, lT, lF, eT, eF, not_false_eq_true, not_true_eq_false, sI_at, sI_c, sI_j, aI_at, aI_c, sL_at, sL_c, sL_j, true_and, and_true, not_true_eq_false, not_false_eq_true, forall_const, true_implies, false_implies, implies_true, if_true, if_false, ite_true, ite_false, Bool.not_eq_true, Bool.not_eq_false, Bool.true_eq_false, Bool.false_eq_true, false_and, and_false, or_true, true_or, false_or, or_false]
    exact hK
theorem cm_isLetterM {b : Bool} {I : MI} {L : ML} {K : Int32 → Bool → MI → ML → Prop} (hK : K (nI 0) b I L) : CI m_M_isLetter [vi nM] b I L K := v_M_isLetter_0 ⟨fun _ => ⟨Or.inl rfl, hK⟩, fun z => absurd (by decide) z⟩
theorem cm_isDigitM {b : Bool} {I : MI} {L : ML} {K : Int32 → Bool → MI → ML → Prop} (hK : K (nI 0) b I L) : CI m_M_isDigit [vi nM] b I L K := v_M_isDigit_0 ⟨fun _ => ⟨Or.inl rfl, hK⟩, fun z => absurd (by decide) z⟩
/-- the token's number in the reference -/
def tkM (y : Nat → Nat) (n w : Nat) : Nat := if kin y n w = 0 then 0 else if kin y n w = 1 then (match wrd y n w with
  | some _ => 3
  | none => 4) else if kin y n w = 2 then 1 else if kin y n w = 3 then 2 else 4
def RM (y : Nat → Nat) (n w : Nat) (I : MI) : Prop := I 186 3 = nI (nxt y n w) ∧ I 186 4 = nI w ∧ I 186 5 = nI (tkM y n w) ∧ (kin y n w = 2 → I 186 6 = nI (nmb y n w)) ∧ (kin y n w = 1 → I 186 7 = nI (wcO (wrd y n w))) ∧ ∃ z : Int32, I 186 6 = z
def xfr (I I' : MI) : Prop := (∀ a, a ≠ 186 → I' a = I a) ∧ ∀ j, j ≠ 3 → j ≠ 4 → j ≠ 5 → j ≠ 6 → j ≠ 7 → I' 186 j = I 186 j
theorem xfr.trans {I I' I'' : MI} (h : xfr I I') (k : xfr I' I'') : xfr I I'' := ⟨fun a ha => (k.1 a ha).trans (h.1 a ha), fun j q1 q2 q3 q4 q5 => (k.2 j q1 q2 q3 q4 q5).trans (h.2 j q1 q2 q3 q4 q5)⟩
theorem xfr_s {I : MI} {j : Nat} {v : Int32} (h : j = 3 ∨ j = 4 ∨ j = 5 ∨ j = 6 ∨ j = 7) : xfr I (sI I 186 j v) := ⟨fun a ha => sI_c ha, fun i q1 q2 q3 q4 q5 => sI_j (by omega)⟩
theorem xfr.pm {y : Nat → Nat} {n : Nat} {I I' : MI} (h : xfr I I') (T : PM y n I) : PM y n I' := by
  unfold PM
  rw [h.1 187 (by omega), h.2 2 (by omega) (by omega) (by omega) (by omega) (by omega)]
  exact T
theorem cod_lt : ∀ l, letL l → ∀ a, cod l a < (a + 1) * 32 ^ l.length
  | [], _, a => by
    show a < (a + 1) * 1
    omega
  | x :: l, h, a => by
    have hx := h x (List.mem_cons_self ..)
    have ih := cod_lt l (fun q hq => h q (List.mem_cons_of_mem _ hq)) (32 * a + (x - 96))
    show cod l (32 * a + (x - 96)) < (a + 1) * 32 ^ (l.length + 1)
    have e : (a + 1) * 32 ^ (l.length + 1) = (32 * (a + 1)) * 32 ^ l.length := by
      rw [Nat.pow_succ, ← Nat.mul_assoc, Nat.mul_comm _ 32, ← Nat.mul_assoc]
    rw [e]
    exact Nat.lt_of_lt_of_le ih (Nat.mul_le_mul_right _ (by omega))
/-- what the letters so far say -/
theorem wrd_cod {y : Nat → Nat} {n w : Nat} (hw : w < n) (hl : isLt (y w) = true) (h6 : nxt y n w - w ≤ 6) : fstN (isC (cod (lts y (nxt y n w - w) w) 0)) 14 0 = wrd y n w := by
  have en : nxt y n w = rnT isLt y n w := by
    unfold nxt
    rw [if_neg (by omega), if_pos hl]
  have hL : letL (lts y (nxt y n w - w) w) := fun x hx => by
    obtain ⟨q, q1, q2, rfl⟩ := lts_mem _ _ hx
    rw [en] at q2
    exact lt_le (rnT_in (f := isLt) (y := y) (n := n) (p := w) (by omega) q1 (by omega))
  have e : ∀ i, i < 14 → isC (cod (lts y (nxt y n w - w) w) 0) i = isW y n w i := fun i hi => by
    unfold isC isW
    exact decide_eq_decide.mpr ⟨fun h => cod_inj _ _ _ rfl hL (nmW_letL hi) h, fun h => by rw [h]⟩
  have cong : ∀ k i, i + k ≤ 14 → fstN (isC (cod (lts y (nxt y n w - w) w) 0)) k i = fstN (isW y n w) k i := by
    intro k
    induction k with
    | zero => exact fun i _ => rfl
    | succ k ih =>
      intro i hi
      unfold fstN
      rw [e i (by omega), ih (i + 1) (by omega)]
  exact cong 14 0 (by omega)
theorem wrd_long {y : Nat → Nat} {n w : Nat} (h6 : 6 < nxt y n w - w) : wrd y n w = none := by
  refine fstN_none.mpr (fun i _ hi => ?_)
  refine decide_eq_false (fun e => ?_)
  have := congrArg List.length e
  rw [lts_len] at this
  have := nmW_len i (by omega)
  omega
theorem cm_advance {y : Nat → Nat} {n p : Nat} {I : MI} {L : ML} (T : PM y n I) (hp : p ≤ n) (e3 : I 186 3 = nI p) (e6 : ∃ z : Int32, I 186 6 = z) {b : Bool} {K : Bool → MI → ML → Prop} (hK : ∀ I', xfr I I' → RM y n (whr y n p) I' → K b I' L) : CV m_M_advance [vr 22 186] b I L K := by
  have T2 := T.1.2
  -- a row of letters
  have letters : ∀ w, w < n → isLt (y w) = true → ∀ k q, q + k = rnT isLt y n w → w ≤ q → ∀ (x : Nat) (I1 : MI), PM y n I1 → I1 186 3 = nI q → I1 186 4 = nI w → (∃ z : Int32, I1 186 6 = z) → x < 2147483648 → (q ≤ w + 6 → x = cod (lts y (q - w) w) 0) → (∀ I', xfr I1 I' → RM y n w I' → K b I' L) → SW m_M_advance 77 [vr 22 186, un, vi (nI x)] [] b I1 L (kV K) := by
    intro w hw hl k
    have hle := rnT_le (f := isLt) (y := y) (n := n) (p := w) (by omega)
    have kd : kin y n w = 1 := kin_1.mpr ⟨hw, hl⟩
    have en : nxt y n w = rnT isLt y n w := by
      unfold nxt
      rw [if_neg (by omega), if_pos hl]
    -- the row ends
    have fin : ∀ (x : Nat) (I1 : MI), PM y n I1 → I1 186 3 = nI (rnT isLt y n w) → I1 186 4 = nI w → (∃ z : Int32, I1 186 6 = z) → x < 2147483648 → (rnT isLt y n w ≤ w + 6 → x = cod (lts y (rnT isLt y n w - w) w) 0) → (∀ I', xfr I1 I' → RM y n w I' → K b I' L) → ((((I1 186 3) - (I1 186 4)) ≤ (6 : Int32) → CI m_M_wordOf [vi (nI x)] b I1 L (fun v_3 b_3 I_3 L_3 => ((¬ v_3 = (99 : Int32) → K b_3 (sI (sI I_3 186 7 v_3) 186 5 (3 : Int32)) L_3) ∧ (¬ (¬ v_3 = (99 : Int32)) → K b_3 (sI (sI I_3 186 7 v_3) 186 5 (4 : Int32)) L_3)))) ∧ (¬ ((I1 186 3) - (I1 186 4)) ≤ (6 : Int32) → ((¬ (99 : Int32) = (99 : Int32) → K b (sI (sI I1 186 7 (99 : Int32)) 186 5 (3 : Int32)) L) ∧ (¬ (¬ (99 : Int32) = (99 : Int32)) → K b (sI (sI I1 186 7 (99 : Int32)) 186 5 (4 : Int32)) L)))) := by
      intro x I1 T1 q3 q4 q6 hx2 hx kk
      have ek : ∀ (v t : Int32), v = nI (wcO (wrd y n w)) → t = nI (tkM y n w) → K b (sI (sI I1 186 7 v) 186 5 t) L := fun v t hv ht => kk _ ((xfr_s (by omega)).trans (xfr_s (by omega))) ⟨by rw [sI_j (by omega), sI_j (by omega), q3, en], by rw [sI_j (by omega), sI_j (by omega), q4], by rw [sI_at, ht], fun z => (by rw [kd] at z; cases z), fun _ => by rw [sI_j (by omega), sI_at, hv], by rw [sI_j (by omega), sI_j (by omega)]; exact q6⟩
      have et : tkM y n w = match wrd y n w with
        | some _ => 3
        | none => 4 := by
        unfold tkM
        rw [if_neg (by rw [kd]; decide), if_pos kd]
      rw [q3, q4, n_sub (by omega), show (6 : Int32) = nI 6 from rfl, n_le (by omega) (by omega)]
      refine ⟨fun g => cm_wordOf hx2 ?_, fun g => ⟨fun z => absurd rfl z, fun _ => ?_⟩⟩
      · have ew := wrd_cod hw hl (by rw [en]; exact g)
        rw [en] at ew
        rw [hx (by omega), ew]
        cases hwd : wrd y n w with
        | some i =>
          have hi := (fstN_some hwd).1.2
          rw [hwd] at et ek
          have ek := ek (nI (i + 1)) (3 : Int32) rfl (by rw [et]; rfl)
          refine ⟨fun _ => ek, fun z => absurd (show ¬ nI (i + 1) = nI 99 by rw [n_eq (by omega) (by omega)]; omega) z⟩
        | none =>
          rw [hwd] at et ek
          exact ⟨fun z => absurd rfl z, fun _ => ek (nI 99) (4 : Int32) rfl (by rw [et]; rfl)⟩
      · have ew := wrd_long (y := y) (n := n) (w := w) (by rw [en]; omega)
        rw [ew] at et ek
        exact ek (99 : Int32) (4 : Int32) rfl (by rw [et]; rfl)
    induction k with
    | zero =>
      intro q hq hwq x I1 T1 q3 q4 q6 hx2 hx kk
      rw [Nat.add_zero] at hq
      subst hq
      have fin := fin x I1 T1 q3 q4 q6 hx2 hx kk
      refine v_M_advance_77 ?_
      have T1' := T1.1.2
      have key : ∀ v : Int32, ((v = nM) ∨ ∃ c, c < 256 ∧ isLt c = false ∧ v = nI c) → CI m_M_isLetter [vi v] b I1 L (fun v_2 b_2 I_2 L_2 => ((v_2 = 0 → ((((I_2 186 3) - (I_2 186 4)) ≤ (6 : Int32) → CI m_M_wordOf [vi (nI x)] b_2 I_2 L_2 (fun v_3 b_3 I_3 L_3 => ((¬ v_3 = (99 : Int32) → K b_3 (sI (sI I_3 186 7 v_3) 186 5 (3 : Int32)) L_3) ∧ (¬ (¬ v_3 = (99 : Int32)) → K b_3 (sI (sI I_3 186 7 v_3) 186 5 (4 : Int32)) L_3)))) ∧ (¬ ((I_2 186 3) - (I_2 186 4)) ≤ (6 : Int32) → ((¬ (99 : Int32) = (99 : Int32) → K b_2 (sI (sI I_2 186 7 (99 : Int32)) 186 5 (3 : Int32)) L_2) ∧ (¬ (¬ (99 : Int32) = (99 : Int32)) → K b_2 (sI (sI I_2 186 7 (99 : Int32)) 186 5 (4 : Int32)) L_2))))) ∧ (¬ v_2 = 0 → (((6 : Int32) ≤ ((I_2 186 3) - (I_2 186 4)) → SW m_M_advance 77 [vr 22 186, un, vi (nI x)] [] b_2 (sI I_2 186 3 ((I_2 186 3) + (1 : Int32))) L_2 (kV K)) ∧ (¬ (6 : Int32) ≤ ((I_2 186 3) - (I_2 186 4)) → CI m_M_byteAt [vr 22 186, vi (I_2 186 3)] b_2 I_2 L_2 (fun v_4 b_4 I_4 L_4 => SW m_M_advance 77 [vr 22 186, un, vi ((((32 : Int32) * (nI x)) + v_4) - (96 : Int32))] [] b_4 (sI I_4 186 3 ((I_4 186 3) + (1 : Int32))) L_4 (kV K))))))) := by
        intro v hv
        rcases hv with rfl | ⟨c, hc, hlc, rfl⟩
        · exact cm_isLetterM ⟨fun _ => fin, fun z => absurd rfl z⟩
        · refine cm_isLetter (by omega) ?_
          rw [hlc]
          exact ⟨fun _ => fin, fun z => absurd rfl z⟩
      rw [q3]
      exact cm_byteAt T1 (by omega) (fun g => key _ (Or.inr ⟨_, T1.2.2 _ g, rnT_end (f := isLt) (y := y) (by omega) g, rfl⟩)) (fun _ => key _ (Or.inl rfl))
    | succ k ih =>
      intro q hq hwq x I1 T1 q3 q4 q6 hx2 hx kk
      have dp := rnT_in (f := isLt) (y := y) (n := n) (p := w) (q := q) (by omega) hwq (by omega)
      have dl := lt_le dp
      refine v_M_advance_77 ?_
      rw [q3]
      refine cm_byteAt T1 (by omega) (fun g => cm_isLetter (by omega) ?_) (fun g => absurd g (by omega))
      rw [dp, q3, q4, n_sub hwq, show nI q + (1 : Int32) = nI (q + 1) from n_add q 1, show (6 : Int32) = nI 6 from rfl, n_le (a := 6) (by omega) (by omega)]
      refine ⟨fun z => absurd z (by decide), fun _ => ⟨fun z => ?_, fun z => cm_byteAt T1 (by omega) (fun _ => ?_) (fun z2 => absurd z2 (by omega))⟩⟩
      · exact ih (q + 1) (by omega) (by omega) x _ ((xfr_s (by omega)).pm T1) (sI_at _ _ _ _) (by rw [sI_j (by omega)]; exact q4) (by rw [sI_j (by omega)]; exact q6) hx2 (fun g => by omega) (fun I' f r => kk I' ((xfr_s (by omega)).trans f) r)
      · have hx := hx (by omega)
        have hL : letL (lts y (q - w) w) := fun u hu => by
          obtain ⟨q', g1, g2, rfl⟩ := lts_mem _ _ hu
          exact lt_le (rnT_in (f := isLt) (y := y) (n := n) (p := w) (by omega) g1 (by omega))
        have cl := cod_lt _ hL 0
        rw [lts_len, Nat.zero_add, Nat.one_mul, ← hx] at cl
        have p5 : 32 ^ (q - w) ≤ 32 ^ 5 := Nat.pow_le_pow_right (by decide) (by omega)
        have e : (32 : Int32) * nI x + nI (y q) - (96 : Int32) = nI (32 * x + (y q - 96)) := by
          rw [show (32 : Int32) = nI 32 from rfl, n_mul, n_add, show (96 : Int32) = nI 96 from rfl, n_sub (by omega)]
          congr 1
          omega
        rw [e, q3, show nI q + (1 : Int32) = nI (q + 1) from n_add q 1]
        refine ih (q + 1) (by omega) (by omega) (32 * x + (y q - 96)) _ ((xfr_s (by omega)).pm T1) (sI_at _ _ _ _) (by rw [sI_j (by omega)]; exact q4) (by rw [sI_j (by omega)]; exact q6) (by omega) (fun g => ?_) (fun I' f r => kk I' ((xfr_s (by omega)).trans f) r)
        rw [show q + 1 - w = (q - w) + 1 by omega, lts_snoc, cod_snoc, ← hx, show w + (q - w) = q by omega]
  -- a row of digits
  have digits : ∀ w, w < n → isLt (y w) = false → isDg (y w) = true → ∀ k q, q + k = rnT isDg y n w → w ≤ q → ∀ (x : Nat) (I1 : MI), PM y n I1 → I1 186 3 = nI q → I1 186 4 = nI w → I1 186 6 = nI x → x ≤ 99 → (q = w → x = 0) → (q = w + 1 → x = y w - 48) → (q = w + 2 → x = 10 * (y w - 48) + (y (w + 1) - 48)) → (∀ I', xfr I1 I' → RM y n w I' → K b I' L) → SW m_M_advance 195 [vr 22 186, un, un] [] b I1 L (kV K) := by
    intro w hw hl hd k
    have hle := rnT_le (f := isDg) (y := y) (n := n) (p := w) (by omega)
    have hlt := rnT_lt (f := isDg) (y := y) hw hd
    have en : nxt y n w = rnT isDg y n w := by
      unfold nxt
      rw [if_neg (by omega), if_neg (by rw [hl]; exact Bool.false_ne_true), if_pos hd]
    have kd : kin y n w = if rnT isDg y n w ≤ w + 2 then 2 else 4 := by
      unfold kin
      rw [if_neg (by omega), if_neg (by rw [hl]; exact Bool.false_ne_true), if_pos hd]
    have fin : ∀ (x : Nat) (I1 : MI), I1 186 3 = nI (rnT isDg y n w) → I1 186 4 = nI w → I1 186 6 = nI x → x ≤ 99 → (rnT isDg y n w = w + 1 → x = y w - 48) → (rnT isDg y n w = w + 2 → x = 10 * (y w - 48) + (y (w + 1) - 48)) → (∀ I', xfr I1 I' → RM y n w I' → K b I' L) → ((((I1 186 3) - (I1 186 4)) ≤ (2 : Int32) → K b (sI I1 186 5 (1 : Int32)) L) ∧ (¬ ((I1 186 3) - (I1 186 4)) ≤ (2 : Int32) → K b (sI I1 186 5 (4 : Int32)) L)) := by
      intro x I1 q3 q4 q6 hx h1 h2 kk
      have ek : ∀ t : Int32, t = nI (tkM y n w) → (kin y n w = 2 → x = nmb y n w) → ¬ kin y n w = 1 → K b (sI I1 186 5 t) L := fun t ht hn k1 => kk _ (xfr_s (by omega)) ⟨by rw [sI_j (by omega), q3, en], by rw [sI_j (by omega), q4], by rw [sI_at, ht], fun z => by rw [sI_j (by omega), q6, hn z], fun z => absurd z k1, ⟨_, rfl⟩⟩
      rw [q3, q4, n_sub (by omega), show (2 : Int32) = nI 2 from rfl, n_le (by omega) (by omega)]
      refine ⟨fun g => ?_, fun g => ?_⟩
      · rw [if_pos (by omega)] at kd
        have et : tkM y n w = 1 := by
          unfold tkM
          rw [if_neg (by rw [kd]; decide), if_neg (by rw [kd]; decide), if_pos kd]
        refine ek 1 (by rw [et]; rfl) (fun _ => ?_) (by rw [kd]; decide)
        unfold nmb
        by_cases c : rnT isDg y n w = w + 1
        · rw [if_pos c]
          exact h1 c
        · rw [if_neg c]
          exact h2 (by omega)
      · rw [if_neg (by omega)] at kd
        have et : tkM y n w = 4 := by
          unfold tkM
          rw [if_neg (by rw [kd]; decide), if_neg (by rw [kd]; decide), if_neg (by rw [kd]; decide), if_neg (by rw [kd]; decide)]
        exact ek 4 (by rw [et]; rfl) (fun z => by rw [kd] at z; cases z) (by rw [kd]; decide)
    induction k with
    | zero =>
      intro q hq hwq x I1 T1 q3 q4 q6 hx h0 h1 h2 kk
      rw [Nat.add_zero] at hq
      subst hq
      have fin := fin x I1 q3 q4 q6 hx h1 h2 kk
      refine v_M_advance_195 ?_
      rw [q3]
      refine cm_byteAt T1 (by omega) (fun g => cm_isDigit (by have := T1.2.2 _ g; omega) ?_) (fun _ => cm_isDigitM ⟨fun _ => fin, fun z => absurd rfl z⟩)
      rw [rnT_end (f := isDg) (y := y) (by omega) g]
      exact ⟨fun _ => fin, fun z => absurd rfl z⟩
    | succ k ih =>
      intro q hq hwq x I1 T1 q3 q4 q6 hx h0 h1 h2 kk
      have dp := rnT_in (f := isDg) (y := y) (n := n) (p := w) (q := q) (by omega) hwq (by omega)
      have dl := dg_le dp
      refine v_M_advance_195 ?_
      rw [q3]
      refine cm_byteAt T1 (by omega) (fun g => cm_isDigit (by omega) ?_) (fun g => absurd g (by omega))
      rw [dp, q3, q4, n_sub hwq, show nI q + (1 : Int32) = nI (q + 1) from n_add q 1, show (2 : Int32) = nI 2 from rfl, n_le (a := 2) (by omega) (by omega)]
      refine ⟨fun z => absurd z (by decide), fun _ => ⟨fun z => ?_, fun z => cm_byteAt T1 (by omega) (fun _ => ?_) (fun z2 => absurd z2 (by omega))⟩⟩
      · refine ih (q + 1) (by omega) (by omega) x _ ((xfr_s (by omega)).pm T1) (sI_at _ _ _ _) (by rw [sI_j (by omega)]; exact q4) (by rw [sI_j (by omega)]; exact q6) hx (fun g => by omega) (fun g => by omega) (fun g => by omega) (fun I' f r => kk I' ((xfr_s (by omega)).trans f) r)
      · have d0 := dg_le hd
        have e : (10 : Int32) * I1 186 6 + nI (y q) - (48 : Int32) = nI (10 * x + (y q - 48)) := by
          rw [q6, show (10 : Int32) = nI 10 from rfl, n_mul, n_add, show (48 : Int32) = nI 48 from rfl, n_sub (by omega)]
          congr 1
          omega
        rw [e, q3, show nI q + (1 : Int32) = nI (q + 1) from n_add q 1]
        have hx9 : x ≤ 9 := by
          rcases (by omega : q = w ∨ q = w + 1) with c | c
          · have := h0 c
            omega
          · have := h1 c
            omega
        refine ih (q + 1) (by omega) (by omega) (10 * x + (y q - 48)) _ (((xfr_s (by omega)).trans (xfr_s (by omega))).pm T1) (sI_at _ _ _ _) (by rw [sI_j (by omega), sI_j (by omega)]; exact q4) (by rw [sI_j (by omega), sI_at]) (by omega) (fun g => by omega) (fun g => ?_) (fun g => ?_) (fun I' f r => kk I' (((xfr_s (by omega)).trans (xfr_s (by omega))).trans f) r)
        · have c : q = w := by omega
          have := h0 c
          rw [c, this]
          omega
        · have c : q = w + 1 := by omega
          have := h1 c
          rw [c, this]
  -- behind the blanks
  have loop : ∀ k q, q + k = n → ∀ I1 : MI, PM y n I1 → I1 186 3 = nI q → (∃ z : Int32, I1 186 6 = z) → (∀ I', xfr I1 I' → RM y n (whr y n q) I' → K b I' L) → SW m_M_advance 0 [vr 22 186, un, un] [] b I1 L (kV K) ∧ CV m_M_advance [vr 22 186] b I1 L K := by
    intro k
    induction k with
    | zero =>
      intro q hq I1 T1 q3 q6 kk
      obtain rfl : q = n := by omega
      have ew : whr y q q = q := rnT_out (Nat.le_refl _)
      rw [ew] at kk
      have kd : kin y q q = 0 := kin_0 (Nat.le_refl _)
      have en : nxt y q q = q := if_pos (Nat.le_refl _)
      have et : tkM y q q = 0 := if_pos kd
      have T3 := (xfr_s (I := I1) (j := 4) (v := nI q) (by omega)).pm T1
      have dn : K b (sI (sI I1 186 4 (nI q)) 186 5 (0 : Int32)) L := kk _ ((xfr_s (by omega)).trans (xfr_s (by omega))) ⟨by rw [sI_j (by omega), sI_j (by omega), q3, en], by rw [sI_j (by omega), sI_at], by rw [sI_at, et]; rfl, fun z => (by rw [kd] at z; cases z), fun z => (by rw [kd] at z; cases z), by rw [sI_j (by omega), sI_j (by omega)]; exact q6⟩
      refine ⟨v_M_advance_h0 ?_, v_M_advance_0 ?_⟩
      all_goals
        rw [q3]
        refine cm_byteAt T1 (by omega) (fun g => absurd g (by omega)) (fun _ => ⟨fun z => absurd z (by decide), fun _ => ?_⟩)
        rw [q3]
        refine cm_byteAt T1 (by omega) (fun g => absurd g (by omega)) (fun _ => ⟨fun _ => ?_, fun z => absurd (by decide) z⟩)
        rw [q3]
        refine cm_byteAt T3 (by omega) (fun g => absurd g (by omega)) (fun _ => ⟨fun z => absurd z (by decide), fun _ => dn⟩)
    | succ k ih =>
      intro q hq I1 T1 q3 q6 kk
      have hqn : q < n := by omega
      have hy := T1.2.2 q hqn
      have stp := ih (q + 1) (by omega) (sI I1 186 3 (nI (q + 1))) ((xfr_s (by omega)).pm T1) (sI_at _ _ _ _) (by rw [sI_j (by omega)]; exact q6)
      have blank : isBl (y q) = true → SW m_M_advance 0 [vr 22 186, un, un] [] b (sI I1 186 3 (nI (q + 1))) L (kV K) := fun hb => by
        refine (stp (fun I' f r => ?_)).1
        rw [show whr y n (q + 1) = whr y n q from (rnT_go hqn hb).symm] at r
        exact kk I' ((xfr_s (by omega)).trans f) r
      have T3 := (xfr_s (I := I1) (j := 4) (v := nI q) (by omega)).pm T1
      have bl : ∀ c : Nat, y q = c → (c = 10 ∨ c = 32) → isBl (y q) = true := fun c h1 h2 => by
        rw [h1]
        rcases h2 with rfl | rfl <;> rfl
      have nb : ¬ y q = 10 → ¬ y q = 32 → isBl (y q) = false := fun h1 h2 => by
        unfold isBl
        rw [decide_eq_false h1, decide_eq_false h2]
        rfl
      refine ⟨v_M_advance_h0 ?_, v_M_advance_0 ?_⟩
      all_goals
        rw [q3]
        refine cm_byteAt T1 (by omega) (fun _ => ?_) (fun g => absurd g (by omega))
        rw [show (10 : Int32) = nI 10 from rfl, n_eq (by omega) (by omega)]
        refine ⟨fun z => (by rw [q3, show nI q + (1 : Int32) = nI (q + 1) from n_add q 1]; exact blank (bl 10 z (Or.inl rfl))), fun z => ?_⟩
        rw [q3]
        refine cm_byteAt T1 (by omega) (fun _ => ?_) (fun g => absurd g (by omega))
        rw [q3, show nI q + (1 : Int32) = nI (q + 1) from n_add q 1, show (32 : Int32) = nI 32 from rfl, n_eq (by omega) (by omega)]
        refine ⟨fun z2 => ?_, fun z2 => blank (bl 32 (Decidable.not_not.mp z2) (Or.inr rfl))⟩
        have hb := nb z z2
        have ew : whr y n q = q := rnT_stop hb
        rw [ew] at kk
        refine cm_byteAt T3 (by omega) (fun _ => ⟨fun _ => cm_isLetter (by omega) ?_, fun g => absurd (show nI 0 ≤ nI (y q) by rw [n_le (by omega) (by omega)]; omega) g⟩) (fun g => absurd g (by omega))
        cases hl : isLt (y q) with
        | true =>
          refine ⟨fun g => absurd g (by decide), fun _ => ?_⟩
          refine letters q hqn hl (rnT isLt y n q - q) q (by have := rnT_le (f := isLt) (y := y) (n := n) (p := q) (by omega); omega) (Nat.le_refl _) 0 _ T3 (by rw [sI_j (by omega)]; exact q3) (sI_at _ _ _ _) (by rw [sI_j (by omega)]; exact q6) (by omega) (fun _ => ?_) (fun I' f r => kk I' ((xfr_s (by omega)).trans f) r)
          rw [Nat.sub_self]
          rfl
        | false =>
          refine ⟨fun _ => cm_isDigit (by omega) ?_, fun g => absurd rfl g⟩
          cases hd : isDg (y q) with
          | true =>
            refine ⟨fun g => absurd g (by decide), fun _ => ?_⟩
            exact digits q hqn hl hd (rnT isDg y n q - q) q (by have := rnT_le (f := isDg) (y := y) (n := n) (p := q) (by omega); omega) (Nat.le_refl _) 0 _ ((xfr_s (by omega)).pm T3) (by rw [sI_j (by omega), sI_j (by omega)]; exact q3) (by rw [sI_j (by omega), sI_at]) (sI_at _ _ _ _) (by omega) (fun _ => rfl) (fun g => by omega) (fun g => by omega) (fun I' f r => kk I' (((xfr_s (by omega)).trans (xfr_s (by omega))).trans f) r)
          | false =>
            refine ⟨fun _ => ?_, fun g => absurd rfl g⟩
            have en : nxt y n q = q + 1 := by
              unfold nxt
              rw [if_neg (by omega), if_neg (by rw [hl]; exact Bool.false_ne_true), if_neg (by rw [hd]; exact Bool.false_ne_true)]
            have kd : kin y n q = if y q = 59 then 3 else 4 := by
              unfold kin
              rw [if_neg (by omega), if_neg (by rw [hl]; exact Bool.false_ne_true), if_neg (by rw [hd]; exact Bool.false_ne_true)]
            have e43 : sI I1 186 4 (nI q) 186 3 = nI q := by rw [sI_j (by omega)]; exact q3
            rw [e43, show nI q + (1 : Int32) = nI (q + 1) from n_add q 1, show (59 : Int32) = nI 59 from rfl, n_eq (by omega) (by omega)]
            have ek : ∀ v : Int32, v = nI (tkM y n q) → ¬ kin y n q = 2 → ¬ kin y n q = 1 → K b (sI (sI (sI I1 186 4 (nI q)) 186 3 (nI (q + 1))) 186 5 v) L := fun v hv h2 h1 => kk _ (((xfr_s (by omega)).trans (xfr_s (by omega))).trans (xfr_s (by omega))) ⟨by rw [sI_j (by omega), sI_at, en], by rw [sI_j (by omega), sI_j (by omega), sI_at], by rw [sI_at, hv], fun g => absurd g h2, fun g => absurd g h1, by rw [sI_j (by omega), sI_j (by omega), sI_j (by omega)]; exact q6⟩
            refine ⟨fun g => ?_, fun g => ?_⟩
            · rw [if_neg g] at kd
              have et : tkM y n q = 4 := by
                unfold tkM
                rw [if_neg (by rw [kd]; decide), if_neg (by rw [kd]; decide), if_neg (by rw [kd]; decide), if_neg (by rw [kd]; decide)]
              exact ek 4 (by rw [et]; rfl) (by rw [kd]; decide) (by rw [kd]; decide)
            · rw [if_pos (Decidable.not_not.mp g)] at kd
              have et : tkM y n q = 2 := by
                unfold tkM
                rw [if_neg (by rw [kd]; decide), if_neg (by rw [kd]; decide), if_neg (by rw [kd]; decide), if_pos kd]
              exact ek 2 (by rw [et]; rfl) (by rw [kd]; decide) (by rw [kd]; decide)
  exact (loop (n - p) p (by omega) I T e3 e6 hK).2
