/-! areBoth, takesIn of the reference -/
def hc (h0 h1 : Bool) : Nat := h0.toNat + 2 * h1.toNat
theorem hc_lt (h0 h1 : Bool) : hc h0 h1 < 4 := by cases h0 <;> cases h1 <;> decide
theorem hc_or : ∀ (h0 h1 u v : Bool), (nI (hc h0 h1) ||| nI u.toNat) ||| nI (2 * v.toNat) = nI (hc (h0 || u) (h1 || v)) := by decide
theorem hc_0 : ∀ (h0 h1 : Bool), (nI (hc h0 h1) = nI 0) = (h0 = false ∧ h1 = false) := by decide
theorem hc_2 : ∀ (h0 h1 : Bool), (nI (hc h0 h1) = nI 2) = (h0 = false ∧ h1 = true) := by decide
theorem hc_1 : ∀ (h0 h1 : Bool), (nI (hc h0 h1) = nI 1) = (h0 = true ∧ h1 = false) := by decide
theorem hc_b0 : ∀ (h0 h1 : Bool), bt (nI (hc h0 h1)) 0 = h0 := by decide
theorem hc_b1 : ∀ (h0 h1 : Bool), bt (nI (hc h0 h1)) 1 = h1 := by decide
section
variable {v : Vil} {t : Tel} {x : Wi} {o : Nat} {w : Wd} {b : Bool} {I : MI} {L : ML}
theorem cm_takesIn {p a c at' : Nat} {h0 h1 : Bool} {z : Int} {K : Int32 → Bool → MI → ML → Prop} (h : WM v t x o w I L) (hp : p < 16) (ha : a ≤ 700) (hcc : c ≤ 700) (hat : at' < 3216) (hz : -99 ≤ z ∧ z ≤ 99) (es : I 193 at' = zI z) (hK : K (nI (hc (takes (w.v.kd p) h0 h1 z a c).1 (takes (w.v.kd p) h0 h1 z a c).2.1)) b (sI I 193 at' (zI (takes (w.v.kd p) h0 h1 z a c).2.2)) L) : CI m_M_takesIn [vr 22 186, vi (nI p), vi (nI (hc h0 h1)), vi (nI a), vi (nI c), vi (nI at')] b I L K := by
  have hk5 := (h.1.2.1.2.2.2.2.2.1 p hp).1
  have hcl := clampI_le (z + a - c)
  refine v_M_takesIn_0 (cm_kindOf h hp ?_)
  rcases (by omega : w.v.kd p = 0 ∨ w.v.kd p = 1 ∨ w.v.kd p = 2 ∨ w.v.kd p = 3 ∨ w.v.kd p = 4 ∨ w.v.kd p = 5) with k | k | k | k | k | k
  · rw [tk_z (by omega), sI_id es, k, tk_0] at hK
    by_cases q : h0 = false ∧ h1 = false
    · obtain ⟨rfl, rfl⟩ := q
      by_cases q2 : a + c = 0
      · rw [if_pos (Or.inr (Or.inr q2))] at hK
        simp (disch := first | omega | assumption) only [n_lit, n_gLt, n_gLe, n_gEq, n_gEq2, n_gLe2, n_gLt2, n_m1, n_add, n_mul, n_lt, n_le, n_eq, n_cl, n_in, n_rem, n_mlt, n_mle, n_ltm, n_lem, n_eqm, n_meq, n_bit, n_shl, n_b0, n_b1, n_sub, n_inT, nT, nF, lT, lF, eT, eF, not_false_eq_true, not_true_eq_false, sI_at, sI_c, sI_j, aI_at, aI_c, sL_at, sL_c, sL_j, true_and, and_true, not_true_eq_false, not_false_eq_true, forall_const, true_implies, false_implies, implies_true, if_true, if_false, ite_true, ite_false, Bool.not_eq_true, Bool.not_eq_false, Bool.true_eq_false, Bool.false_eq_true, false_and, and_false, or_true, true_or, false_or, or_false, k, hc_0]
        exact hK
      · rw [if_neg (fun q3 => q3.elim (fun q => absurd q (by decide)) (fun q => q.elim (fun q => absurd q (by decide)) q2))] at hK
        by_cases q4 : c ≤ a
        · rw [if_pos q4] at hK
          simp (disch := first | omega | assumption) only [n_lit, n_gLt, n_gLe, n_gEq, n_gEq2, n_gLe2, n_gLt2, n_m1, n_add, n_mul, n_lt, n_le, n_eq, n_cl, n_in, n_rem, n_mlt, n_mle, n_ltm, n_lem, n_eqm, n_meq, n_bit, n_shl, n_b0, n_b1, n_sub, n_inT, nT, nF, lT, lF, eT, eF, not_false_eq_true, not_true_eq_false, sI_at, sI_c, sI_j, aI_at, aI_c, sL_at, sL_c, sL_j, true_and, and_true, not_true_eq_false, not_false_eq_true, forall_const, true_implies, false_implies, implies_true, if_true, if_false, ite_true, ite_false, Bool.not_eq_true, Bool.not_eq_false, Bool.true_eq_false, Bool.false_eq_true, false_and, and_false, or_true, true_or, false_or, or_false, k, hc_0]
          exact hK
        · rw [if_neg q4] at hK
          simp (disch := first | omega | assumption) only [n_lit, n_gLt, n_gLe, n_gEq, n_gEq2, n_gLe2, n_gLt2, n_m1, n_add, n_mul, n_lt, n_le, n_eq, n_cl, n_in, n_rem, n_mlt, n_mle, n_ltm, n_lem, n_eqm, n_meq, n_bit, n_shl, n_b0, n_b1, n_sub, n_inT, nT, nF, lT, lF, eT, eF, not_false_eq_true, not_true_eq_false, sI_at, sI_c, sI_j, aI_at, aI_c, sL_at, sL_c, sL_j, true_and, and_true, not_true_eq_false, not_false_eq_true, forall_const, true_implies, false_implies, implies_true, if_true, if_false, ite_true, ite_false, Bool.not_eq_true, Bool.not_eq_false, Bool.true_eq_false, Bool.false_eq_true, false_and, and_false, or_true, true_or, false_or, or_false, k, hc_0]
          exact hK
    · have q5 : h0 = true ∨ h1 = true ∨ a + c = 0 := by
        cases h0 <;> cases h1 <;> simp at q ⊢
      rw [if_pos q5] at hK
      simp (disch := first | omega | assumption) only [n_lit, n_gLt, n_gLe, n_gEq, n_gEq2, n_gLe2, n_gLt2, n_m1, n_add, n_mul, n_lt, n_le, n_eq, n_cl, n_in, n_rem, n_mlt, n_mle, n_ltm, n_lem, n_eqm, n_meq, n_bit, n_shl, n_b0, n_b1, n_sub, n_inT, nT, nF, lT, lF, eT, eF, not_false_eq_true, not_true_eq_false, sI_at, sI_c, sI_j, aI_at, aI_c, sL_at, sL_c, sL_j, true_and, and_true, not_true_eq_false, not_false_eq_true, forall_const, true_implies, false_implies, implies_true, if_true, if_false, ite_true, ite_false, Bool.not_eq_true, Bool.not_eq_false, Bool.true_eq_false, Bool.false_eq_true, false_and, and_false, or_true, true_or, false_or, or_false, k, hc_0, q]
      exact hK
  · rw [tk_z (by omega), sI_id es, k, tk_1] at hK
    by_cases q : c < a
    · rw [if_pos q] at hK
      simp (disch := first | omega | assumption) only [n_lit, n_gLt, n_gLe, n_gEq, n_gEq2, n_gLe2, n_gLt2, n_m1, n_add, n_mul, n_lt, n_le, n_eq, n_cl, n_in, n_rem, n_mlt, n_mle, n_ltm, n_lem, n_eqm, n_meq, n_bit, n_shl, n_b0, n_b1, n_sub, n_inT, nT, nF, lT, lF, eT, eF, not_false_eq_true, not_true_eq_false, sI_at, sI_c, sI_j, aI_at, aI_c, sL_at, sL_c, sL_j, true_and, and_true, not_true_eq_false, not_false_eq_true, forall_const, true_implies, false_implies, implies_true, if_true, if_false, ite_true, ite_false, Bool.not_eq_true, Bool.not_eq_false, Bool.true_eq_false, Bool.false_eq_true, false_and, and_false, or_true, true_or, false_or, or_false, k]
      exact hK
    · rw [if_neg q] at hK
      by_cases q2 : a < c
      · rw [if_pos q2] at hK
        simp (disch := first | omega | assumption) only [n_lit, n_gLt, n_gLe, n_gEq, n_gEq2, n_gLe2, n_gLt2, n_m1, n_add, n_mul, n_lt, n_le, n_eq, n_cl, n_in, n_rem, n_mlt, n_mle, n_ltm, n_lem, n_eqm, n_meq, n_bit, n_shl, n_b0, n_b1, n_sub, n_inT, nT, nF, lT, lF, eT, eF, not_false_eq_true, not_true_eq_false, sI_at, sI_c, sI_j, aI_at, aI_c, sL_at, sL_c, sL_j, true_and, and_true, not_true_eq_false, not_false_eq_true, forall_const, true_implies, false_implies, implies_true, if_true, if_false, ite_true, ite_false, Bool.not_eq_true, Bool.not_eq_false, Bool.true_eq_false, Bool.false_eq_true, false_and, and_false, or_true, true_or, false_or, or_false, k]
        exact hK
      · rw [if_neg q2] at hK
        simp (disch := first | omega | assumption) only [n_lit, n_gLt, n_gLe, n_gEq, n_gEq2, n_gLe2, n_gLt2, n_m1, n_add, n_mul, n_lt, n_le, n_eq, n_cl, n_in, n_rem, n_mlt, n_mle, n_ltm, n_lem, n_eqm, n_meq, n_bit, n_shl, n_b0, n_b1, n_sub, n_inT, nT, nF, lT, lF, eT, eF, not_false_eq_true, not_true_eq_false, sI_at, sI_c, sI_j, aI_at, aI_c, sL_at, sL_c, sL_j, true_and, and_true, not_true_eq_false, not_false_eq_true, forall_const, true_implies, false_implies, implies_true, if_true, if_false, ite_true, ite_false, Bool.not_eq_true, Bool.not_eq_false, Bool.true_eq_false, Bool.false_eq_true, false_and, and_false, or_true, true_or, false_or, or_false, k]
        exact hK
  · rw [k, tk_2z, tk_2] at hK
    have hX : zI z + nI a - nI c = zI (z + a - c) := by rw [z_nat, z_nat, z_add, z_sub]
    have hz0 : (nI 0 : Int32) = zI 0 := rfl
    have hz99 : (nI 99 : Int32) = zI 99 := rfl
    have hzm : (-nI 99 : Int32) = zI (-99) := rfl
    have p1 : ∀ y : Int, -99 ≤ y → y ≤ 99 → (zI y ≤ nI 0) = (y ≤ 0) := fun y y1 y2 => by rw [hz0, z_le (by omega) (by omega) (by omega) (by omega)]
    have p2 : ∀ y : Int, -99 ≤ y → y ≤ 99 → (nI 0 ≤ zI y) = (0 ≤ y) := fun y y1 y2 => by rw [hz0, z_le (by omega) (by omega) (by omega) (by omega)]
    have p3 : (zI z + nI a - nI c ≤ nI 99) = (z + a - c ≤ 99) := by rw [hX, hz99, z_le (by omega) (by omega) (by omega) (by omega)]
    have p4 : (zI (-99) ≤ zI z + nI a - nI c) = (-99 ≤ z + a - c) := by rw [hX, z_le (by omega) (by omega) (by omega) (by omega)]
    have fin : ∀ y : Int, clampI (z + a - c) = y → (0 < y → K (nI 1) b (sI I 193 at' (zI y)) L) ∧ (y < 0 → K (nI 2) b (sI I 193 at' (zI y)) L) ∧ (y = 0 → K (nI (hc h0 h1)) b (sI I 193 at' (zI y)) L) := by
      intro y hy
      rw [hy] at hK
      refine ⟨fun q => ?_, fun q => ?_, fun q => ?_⟩
      · rw [if_pos q] at hK; exact hK
      · rw [if_neg (by omega), if_pos q] at hK; exact hK
      · rw [if_neg (by omega), if_neg (by omega)] at hK; exact hK
    by_cases c1 : z + a - c ≤ 99
    · by_cases c2 : -99 ≤ z + a - c
      · have hy : clampI (z + a - c) = z + a - c := by
          unfold clampI
          rw [if_neg (by omega), if_neg (by omega)]
        obtain ⟨g1, g2, g3⟩ := fin _ hy
        have e1 := p1 (z + a - c) (by omega) (by omega)
        have e2 := p2 (z + a - c) (by omega) (by omega)
        rw [← hX] at e1 e2 g1 g2 g3
        rcases (by omega : 0 < z + (a : Int) - c ∨ z + (a : Int) - c < 0 ∨ z + (a : Int) - c = 0) with q | q | q
        · have e1 := e1.trans (eq_false (by omega))
          have p3 := p3.trans (eq_true c1)
          have p4 := p4.trans (eq_true c2)
          have g := g1 q
          simp (disch := first | omega | assumption) only [n_lit, n_gLt, n_gLe, n_gEq, n_gEq2, n_gLe2, n_gLt2, n_m1, n_add, n_mul, n_lt, n_le, n_eq, n_cl, n_in, n_rem, n_mlt, n_mle, n_ltm, n_lem, n_eqm, n_meq, n_bit, n_shl, n_b0, n_b1, n_sub, n_inT, nT, nF, lT, lF, eT, eF, not_false_eq_true, not_true_eq_false, sI_at, sI_c, sI_j, aI_at, aI_c, sL_at, sL_c, sL_j, true_and, and_true, not_true_eq_false, not_false_eq_true, forall_const, true_implies, false_implies, implies_true, if_true, if_false, ite_true, ite_false, Bool.not_eq_true, Bool.not_eq_false, Bool.true_eq_false, Bool.false_eq_true, false_and, and_false, or_true, true_or, false_or, or_false, k, es, p3, hzm, p4, e1]
          exact g
        · have e1 := e1.trans (eq_true (by omega))
          have e2 := e2.trans (eq_false (by omega))
          have p3 := p3.trans (eq_true c1)
          have p4 := p4.trans (eq_true c2)
          have g := g2 q
          simp (disch := first | omega | assumption) only [n_lit, n_gLt, n_gLe, n_gEq, n_gEq2, n_gLe2, n_gLt2, n_m1, n_add, n_mul, n_lt, n_le, n_eq, n_cl, n_in, n_rem, n_mlt, n_mle, n_ltm, n_lem, n_eqm, n_meq, n_bit, n_shl, n_b0, n_b1, n_sub, n_inT, nT, nF, lT, lF, eT, eF, not_false_eq_true, not_true_eq_false, sI_at, sI_c, sI_j, aI_at, aI_c, sL_at, sL_c, sL_j, true_and, and_true, not_true_eq_false, not_false_eq_true, forall_const, true_implies, false_implies, implies_true, if_true, if_false, ite_true, ite_false, Bool.not_eq_true, Bool.not_eq_false, Bool.true_eq_false, Bool.false_eq_true, false_and, and_false, or_true, true_or, false_or, or_false, k, es, p3, hzm, p4, e1, e2]
          exact g
        · have e1 := e1.trans (eq_true (by omega))
          have e2 := e2.trans (eq_true (by omega))
          have p3 := p3.trans (eq_true c1)
          have p4 := p4.trans (eq_true c2)
          have g := g3 q
          simp (disch := first | omega | assumption) only [n_lit, n_gLt, n_gLe, n_gEq, n_gEq2, n_gLe2, n_gLt2, n_m1, n_add, n_mul, n_lt, n_le, n_eq, n_cl, n_in, n_rem, n_mlt, n_mle, n_ltm, n_lem, n_eqm, n_meq, n_bit, n_shl, n_b0, n_b1, n_sub, n_inT, nT, nF, lT, lF, eT, eF, not_false_eq_true, not_true_eq_false, sI_at, sI_c, sI_j, aI_at, aI_c, sL_at, sL_c, sL_j, true_and, and_true, not_true_eq_false, not_false_eq_true, forall_const, true_implies, false_implies, implies_true, if_true, if_false, ite_true, ite_false, Bool.not_eq_true, Bool.not_eq_false, Bool.true_eq_false, Bool.false_eq_true, false_and, and_false, or_true, true_or, false_or, or_false, k, es, p3, hzm, p4, e1, e2]
          exact g
      · have hy : clampI (z + a - c) = -99 := by
          unfold clampI
          rw [if_neg (by omega), if_pos (by omega)]
        obtain ⟨g1, g2, g3⟩ := fin _ hy
        have p3 := p3.trans (eq_true c1)
        have p4 := p4.trans (eq_false c2)
        have e1 := (p1 (-99) (by omega) (by omega)).trans (eq_true (by omega))
        have e2 := (p2 (-99) (by omega) (by omega)).trans (eq_false (by omega))
        have g := g2 (by omega)
        simp (disch := first | omega | assumption) only [n_lit, n_gLt, n_gLe, n_gEq, n_gEq2, n_gLe2, n_gLt2, n_m1, n_add, n_mul, n_lt, n_le, n_eq, n_cl, n_in, n_rem, n_mlt, n_mle, n_ltm, n_lem, n_eqm, n_meq, n_bit, n_shl, n_b0, n_b1, n_sub, n_inT, nT, nF, lT, lF, eT, eF, not_false_eq_true, not_true_eq_false, sI_at, sI_c, sI_j, aI_at, aI_c, sL_at, sL_c, sL_j, true_and, and_true, not_true_eq_false, not_false_eq_true, forall_const, true_implies, false_implies, implies_true, if_true, if_false, ite_true, ite_false, Bool.not_eq_true, Bool.not_eq_false, Bool.true_eq_false, Bool.false_eq_true, false_and, and_false, or_true, true_or, false_or, or_false, k, es, p3, hzm, p4, e1, e2]
        exact g
    · have hy : clampI (z + a - c) = 99 := by
        unfold clampI
        rw [if_pos (by omega)]
      obtain ⟨g1, g2, g3⟩ := fin _ hy
      have p3 := p3.trans (eq_false c1)
      have g := g1 (by omega)
      rw [← hz99] at g
      simp (disch := first | omega | assumption) only [n_lit, n_gLt, n_gLe, n_gEq, n_gEq2, n_gLe2, n_gLt2, n_m1, n_add, n_mul, n_lt, n_le, n_eq, n_cl, n_in, n_rem, n_mlt, n_mle, n_ltm, n_lem, n_eqm, n_meq, n_bit, n_shl, n_b0, n_b1, n_sub, n_inT, nT, nF, lT, lF, eT, eF, not_false_eq_true, not_true_eq_false, sI_at, sI_c, sI_j, aI_at, aI_c, sL_at, sL_c, sL_j, true_and, and_true, not_true_eq_false, not_false_eq_true, forall_const, true_implies, false_implies, implies_true, if_true, if_false, ite_true, ite_false, Bool.not_eq_true, Bool.not_eq_false, Bool.true_eq_false, Bool.false_eq_true, false_and, and_false, or_true, true_or, false_or, or_false, k, es, p3]
      exact g
  · rw [tk_z (by omega), sI_id es, k, tk_3] at hK
    by_cases q : 0 < c
    · rw [if_pos q] at hK
      by_cases q2 : h0 = false ∧ h1 = true
      · simp (disch := first | omega | assumption) only [n_lit, n_gLt, n_gLe, n_gEq, n_gEq2, n_gLe2, n_gLt2, n_m1, n_add, n_mul, n_lt, n_le, n_eq, n_cl, n_in, n_rem, n_mlt, n_mle, n_ltm, n_lem, n_eqm, n_meq, n_bit, n_shl, n_b0, n_b1, n_sub, n_inT, nT, nF, lT, lF, eT, eF, not_false_eq_true, not_true_eq_false, sI_at, sI_c, sI_j, aI_at, aI_c, sL_at, sL_c, sL_j, true_and, and_true, not_true_eq_false, not_false_eq_true, forall_const, true_implies, false_implies, implies_true, if_true, if_false, ite_true, ite_false, Bool.not_eq_true, Bool.not_eq_false, Bool.true_eq_false, Bool.false_eq_true, false_and, and_false, or_true, true_or, false_or, or_false, k, hc_2, q2]
        exact hK
      · simp (disch := first | omega | assumption) only [n_lit, n_gLt, n_gLe, n_gEq, n_gEq2, n_gLe2, n_gLt2, n_m1, n_add, n_mul, n_lt, n_le, n_eq, n_cl, n_in, n_rem, n_mlt, n_mle, n_ltm, n_lem, n_eqm, n_meq, n_bit, n_shl, n_b0, n_b1, n_sub, n_inT, nT, nF, lT, lF, eT, eF, not_false_eq_true, not_true_eq_false, sI_at, sI_c, sI_j, aI_at, aI_c, sL_at, sL_c, sL_j, true_and, and_true, not_true_eq_false, not_false_eq_true, forall_const, true_implies, false_implies, implies_true, if_true, if_false, ite_true, ite_false, Bool.not_eq_true, Bool.not_eq_false, Bool.true_eq_false, Bool.false_eq_true, false_and, and_false, or_true, true_or, false_or, or_false, k, hc_2, q2]
        exact hK
    · rw [if_neg q] at hK
      by_cases q2 : h0 = true ∨ h1 = true
      · rw [if_pos q2] at hK
        have q3 : ¬ (h0 = false ∧ h1 = false) := by rintro ⟨rfl, rfl⟩; simp at q2
        by_cases q4 : h0 = false ∧ h1 = true
        · obtain ⟨rfl, rfl⟩ := q4
          simp (disch := first | omega | assumption) only [n_lit, n_gLt, n_gLe, n_gEq, n_gEq2, n_gLe2, n_gLt2, n_m1, n_add, n_mul, n_lt, n_le, n_eq, n_cl, n_in, n_rem, n_mlt, n_mle, n_ltm, n_lem, n_eqm, n_meq, n_bit, n_shl, n_b0, n_b1, n_sub, n_inT, nT, nF, lT, lF, eT, eF, not_false_eq_true, not_true_eq_false, sI_at, sI_c, sI_j, aI_at, aI_c, sL_at, sL_c, sL_j, true_and, and_true, not_true_eq_false, not_false_eq_true, forall_const, true_implies, false_implies, implies_true, if_true, if_false, ite_true, ite_false, Bool.not_eq_true, Bool.not_eq_false, Bool.true_eq_false, Bool.false_eq_true, false_and, and_false, or_true, true_or, false_or, or_false, k, hc_2]
          exact hK
        · simp (disch := first | omega | assumption) only [n_lit, n_gLt, n_gLe, n_gEq, n_gEq2, n_gLe2, n_gLt2, n_m1, n_add, n_mul, n_lt, n_le, n_eq, n_cl, n_in, n_rem, n_mlt, n_mle, n_ltm, n_lem, n_eqm, n_meq, n_bit, n_shl, n_b0, n_b1, n_sub, n_inT, nT, nF, lT, lF, eT, eF, not_false_eq_true, not_true_eq_false, sI_at, sI_c, sI_j, aI_at, aI_c, sL_at, sL_c, sL_j, true_and, and_true, not_true_eq_false, not_false_eq_true, forall_const, true_implies, false_implies, implies_true, if_true, if_false, ite_true, ite_false, Bool.not_eq_true, Bool.not_eq_false, Bool.true_eq_false, Bool.false_eq_true, false_and, and_false, or_true, true_or, false_or, or_false, k, hc_2, q4, hc_0, q3]
          exact hK
      · rw [if_neg q2] at hK
        have q3 : h0 = false ∧ h1 = false := by cases h0 <;> cases h1 <;> simp at q2 ⊢
        obtain ⟨rfl, rfl⟩ := q3
        by_cases q4 : 0 < a
        · rw [if_pos q4] at hK
          simp (disch := first | omega | assumption) only [n_lit, n_gLt, n_gLe, n_gEq, n_gEq2, n_gLe2, n_gLt2, n_m1, n_add, n_mul, n_lt, n_le, n_eq, n_cl, n_in, n_rem, n_mlt, n_mle, n_ltm, n_lem, n_eqm, n_meq, n_bit, n_shl, n_b0, n_b1, n_sub, n_inT, nT, nF, lT, lF, eT, eF, not_false_eq_true, not_true_eq_false, sI_at, sI_c, sI_j, aI_at, aI_c, sL_at, sL_c, sL_j, true_and, and_true, not_true_eq_false, not_false_eq_true, forall_const, true_implies, false_implies, implies_true, if_true, if_false, ite_true, ite_false, Bool.not_eq_true, Bool.not_eq_false, Bool.true_eq_false, Bool.false_eq_true, false_and, and_false, or_true, true_or, false_or, or_false, k, hc_2, hc_0]
          exact hK
        · rw [if_neg q4] at hK
          simp (disch := first | omega | assumption) only [n_lit, n_gLt, n_gLe, n_gEq, n_gEq2, n_gLe2, n_gLt2, n_m1, n_add, n_mul, n_lt, n_le, n_eq, n_cl, n_in, n_rem, n_mlt, n_mle, n_ltm, n_lem, n_eqm, n_meq, n_bit, n_shl, n_b0, n_b1, n_sub, n_inT, nT, nF, lT, lF, eT, eF, not_false_eq_true, not_true_eq_false, sI_at, sI_c, sI_j, aI_at, aI_c, sL_at, sL_c, sL_j, true_and, and_true, not_true_eq_false, not_false_eq_true, forall_const, true_implies, false_implies, implies_true, if_true, if_false, ite_true, ite_false, Bool.not_eq_true, Bool.not_eq_false, Bool.true_eq_false, Bool.false_eq_true, false_and, and_false, or_true, true_or, false_or, or_false, k, hc_2, hc_0]
          exact hK
  · rw [tk_z (by omega), sI_id es, k, tk_4] at hK
    dsimp only at hK
    rw [← hc_or] at hK
    by_cases q : 0 < a
    · rw [decide_eq_true q] at hK
      by_cases q2 : 0 < c
      · rw [decide_eq_true q2] at hK
        simp (disch := first | omega | assumption) only [n_lit, n_gLt, n_gLe, n_gEq, n_gEq2, n_gLe2, n_gLt2, n_m1, n_add, n_mul, n_lt, n_le, n_eq, n_cl, n_in, n_rem, n_mlt, n_mle, n_ltm, n_lem, n_eqm, n_meq, n_bit, n_shl, n_b0, n_b1, n_sub, n_inT, nT, nF, lT, lF, eT, eF, not_false_eq_true, not_true_eq_false, sI_at, sI_c, sI_j, aI_at, aI_c, sL_at, sL_c, sL_j, true_and, and_true, not_true_eq_false, not_false_eq_true, forall_const, true_implies, false_implies, implies_true, if_true, if_false, ite_true, ite_false, Bool.not_eq_true, Bool.not_eq_false, Bool.true_eq_false, Bool.false_eq_true, false_and, and_false, or_true, true_or, false_or, or_false, k]
        exact hK
      · rw [decide_eq_false q2] at hK
        simp (disch := first | omega | assumption) only [n_lit, n_gLt, n_gLe, n_gEq, n_gEq2, n_gLe2, n_gLt2, n_m1, n_add, n_mul, n_lt, n_le, n_eq, n_cl, n_in, n_rem, n_mlt, n_mle, n_ltm, n_lem, n_eqm, n_meq, n_bit, n_shl, n_b0, n_b1, n_sub, n_inT, nT, nF, lT, lF, eT, eF, not_false_eq_true, not_true_eq_false, sI_at, sI_c, sI_j, aI_at, aI_c, sL_at, sL_c, sL_j, true_and, and_true, not_true_eq_false, not_false_eq_true, forall_const, true_implies, false_implies, implies_true, if_true, if_false, ite_true, ite_false, Bool.not_eq_true, Bool.not_eq_false, Bool.true_eq_false, Bool.false_eq_true, false_and, and_false, or_true, true_or, false_or, or_false, k]
        exact hK
    · rw [decide_eq_false q] at hK
      by_cases q2 : 0 < c
      · rw [decide_eq_true q2] at hK
        simp (disch := first | omega | assumption) only [n_lit, n_gLt, n_gLe, n_gEq, n_gEq2, n_gLe2, n_gLt2, n_m1, n_add, n_mul, n_lt, n_le, n_eq, n_cl, n_in, n_rem, n_mlt, n_mle, n_ltm, n_lem, n_eqm, n_meq, n_bit, n_shl, n_b0, n_b1, n_sub, n_inT, nT, nF, lT, lF, eT, eF, not_false_eq_true, not_true_eq_false, sI_at, sI_c, sI_j, aI_at, aI_c, sL_at, sL_c, sL_j, true_and, and_true, not_true_eq_false, not_false_eq_true, forall_const, true_implies, false_implies, implies_true, if_true, if_false, ite_true, ite_false, Bool.not_eq_true, Bool.not_eq_false, Bool.true_eq_false, Bool.false_eq_true, false_and, and_false, or_true, true_or, false_or, or_false, k]
        exact hK
      · rw [decide_eq_false q2] at hK
        simp (disch := first | omega | assumption) only [n_lit, n_gLt, n_gLe, n_gEq, n_gEq2, n_gLe2, n_gLt2, n_m1, n_add, n_mul, n_lt, n_le, n_eq, n_cl, n_in, n_rem, n_mlt, n_mle, n_ltm, n_lem, n_eqm, n_meq, n_bit, n_shl, n_b0, n_b1, n_sub, n_inT, nT, nF, lT, lF, eT, eF, not_false_eq_true, not_true_eq_false, sI_at, sI_c, sI_j, aI_at, aI_c, sL_at, sL_c, sL_j, true_and, and_true, not_true_eq_false, not_false_eq_true, forall_const, true_implies, false_implies, implies_true, if_true, if_false, ite_true, ite_false, Bool.not_eq_true, Bool.not_eq_false, Bool.true_eq_false, Bool.false_eq_true, false_and, and_false, or_true, true_or, false_or, or_false, k]
        exact hK
  · rw [tk_z (by omega), sI_id es, k, tk_5] at hK
    by_cases q : h0 = false ∧ h1 = false
    · obtain ⟨rfl, rfl⟩ := q
      by_cases q2 : a + c = 0
      · rw [if_pos (Or.inr (Or.inr q2))] at hK
        simp (disch := first | omega | assumption) only [n_lit, n_gLt, n_gLe, n_gEq, n_gEq2, n_gLe2, n_gLt2, n_m1, n_add, n_mul, n_lt, n_le, n_eq, n_cl, n_in, n_rem, n_mlt, n_mle, n_ltm, n_lem, n_eqm, n_meq, n_bit, n_shl, n_b0, n_b1, n_sub, n_inT, nT, nF, lT, lF, eT, eF, not_false_eq_true, not_true_eq_false, sI_at, sI_c, sI_j, aI_at, aI_c, sL_at, sL_c, sL_j, true_and, and_true, not_true_eq_false, not_false_eq_true, forall_const, true_implies, false_implies, implies_true, if_true, if_false, ite_true, ite_false, Bool.not_eq_true, Bool.not_eq_false, Bool.true_eq_false, Bool.false_eq_true, false_and, and_false, or_true, true_or, false_or, or_false, k, hc_0]
        exact hK
      · rw [if_neg (fun q3 => q3.elim (fun q => absurd q (by decide)) (fun q => q.elim (fun q => absurd q (by decide)) q2))] at hK
        by_cases q4 : c ≤ a
        · rw [if_pos q4] at hK
          simp (disch := first | omega | assumption) only [n_lit, n_gLt, n_gLe, n_gEq, n_gEq2, n_gLe2, n_gLt2, n_m1, n_add, n_mul, n_lt, n_le, n_eq, n_cl, n_in, n_rem, n_mlt, n_mle, n_ltm, n_lem, n_eqm, n_meq, n_bit, n_shl, n_b0, n_b1, n_sub, n_inT, nT, nF, lT, lF, eT, eF, not_false_eq_true, not_true_eq_false, sI_at, sI_c, sI_j, aI_at, aI_c, sL_at, sL_c, sL_j, true_and, and_true, not_true_eq_false, not_false_eq_true, forall_const, true_implies, false_implies, implies_true, if_true, if_false, ite_true, ite_false, Bool.not_eq_true, Bool.not_eq_false, Bool.true_eq_false, Bool.false_eq_true, false_and, and_false, or_true, true_or, false_or, or_false, k, hc_0]
          exact hK
        · rw [if_neg q4] at hK
          simp (disch := first | omega | assumption) only [n_lit, n_gLt, n_gLe, n_gEq, n_gEq2, n_gLe2, n_gLt2, n_m1, n_add, n_mul, n_lt, n_le, n_eq, n_cl, n_in, n_rem, n_mlt, n_mle, n_ltm, n_lem, n_eqm, n_meq, n_bit, n_shl, n_b0, n_b1, n_sub, n_inT, nT, nF, lT, lF, eT, eF, not_false_eq_true, not_true_eq_false, sI_at, sI_c, sI_j, aI_at, aI_c, sL_at, sL_c, sL_j, true_and, and_true, not_true_eq_false, not_false_eq_true, forall_const, true_implies, false_implies, implies_true, if_true, if_false, ite_true, ite_false, Bool.not_eq_true, Bool.not_eq_false, Bool.true_eq_false, Bool.false_eq_true, false_and, and_false, or_true, true_or, false_or, or_false, k, hc_0]
          exact hK
    · have q5 : h0 = true ∨ h1 = true ∨ a + c = 0 := by
        cases h0 <;> cases h1 <;> simp at q ⊢
      rw [if_pos q5] at hK
      simp (disch := first | omega | assumption) only [n_lit, n_gLt, n_gLe, n_gEq, n_gEq2, n_gLe2, n_gLt2, n_m1, n_add, n_mul, n_lt, n_le, n_eq, n_cl, n_in, n_rem, n_mlt, n_mle, n_ltm, n_lem, n_eqm, n_meq, n_bit, n_shl, n_b0, n_b1, n_sub, n_inT, nT, nF, lT, lF, eT, eF, not_false_eq_true, not_true_eq_false, sI_at, sI_c, sI_j, aI_at, aI_c, sL_at, sL_c, sL_j, true_and, and_true, not_true_eq_false, not_false_eq_true, forall_const, true_implies, false_implies, implies_true, if_true, if_false, ite_true, ite_false, Bool.not_eq_true, Bool.not_eq_false, Bool.true_eq_false, Bool.false_eq_true, false_and, and_false, or_true, true_or, false_or, or_false, k, hc_0, q]
      exact hK
end
/-- the reference takes up a village and a telling -/
theorem plain_made {B : Bk} {k o : Nat} {t : Tel} {I I' : MI} {L' : ML} (ok : B.ok) (hm : bkM 0 B I) (hk : k < B.nv) (ho : o = 610 + 200 * k) (ht : t.ok) (hI : I' 187 = I 187) (h11 : I' 186 11 = nI o) (hT : rtP t I') (e13 : I' 186 13 = nI 0) (e16 : I' 186 16 = nI 0) (e17 : I' 186 17 = nM) (e23 : I' 186 23 = nM) (e26 : I' 186 26 = nI 0) (l20 : L' 186 20 = 0) (l21 : L' 186 21 = 0) : WM (B.vl k) t wi0 o (mkW (B.vl k) (B.vl k).m t wi0) I' L' := by
  subst ho
  have h1 := ok.1.1
  have hv := ok.2.2.1 k hk
  have hV := hm.2.2.1 k hk
  rw [Nat.zero_add] at hV
  refine ⟨⟨rfl, ?_, hv, ht, wi0_ok⟩, ⟨⟨by omega, by omega⟩, h11, vilM_fr hI hV⟩, hT, ⟨e26, fun p hp h => ?_, fun p hp => ?_, fun h => ?_, fun p hp => ?_, fun p hp => ?_, fun p hp => ?_, fun h => ?_⟩, ⟨rfl, rfl, rfl, rfl⟩, fun t ht => ⟨rfl, rfl, rfl, rfl⟩, fun p hp => Or.inr ⟨Or.inl ?_, rfl⟩, fun p hp => Or.inr ⟨Or.inl ?_, rfl⟩, Or.inl ⟨e23, rfl⟩⟩
  · obtain ⟨q1, q2, q3, q4, q5, q6, q7⟩ := hv
    exact ⟨q1, by show (B.vl k).m ≤ 41; omega, q3, q4, q5, q6, fun t ht => ⟨(q7 t ht).1, (q7 t ht).2.1, fun h => absurd h (by omega), (q7 t ht).2.2.2⟩⟩
  · cases h
  · rw [e13, b_0]; rfl
  · cases h
  · rw [e16, b_0]; rfl
  · rw [l20, l_0]; rfl
  · rw [l21, l_0]; rfl
  · cases h
  · rw [e17, n_eqm (by omega)]; exact id
  · rw [e17, n_eqm (by omega)]; exact id
theorem cm_areBoth {B : Bk} {a1 a2 : Int32} {b : Bool} {I : MI} {L : ML} {K : Int32 → Bool → MI → ML → Prop} (ok : B.ok) (hm : bkM 0 B I) (hy : tkB B a1 a2 = true → ∀ I' L', (∀ a, a ≠ 186 → I' a = I a) → (∃ k, k < B.nv ∧ a1 = nI k ∧ WM (B.vl k) (B.tlOf a2) wi0 (610 + 200 * k) (mkW (B.vl k) (B.vl k).m (B.tlOf a2) wi0) I' L') → K (nI 1) b I' L') (hn : tkB B a1 a2 = false → ∀ I', (∀ a, a ≠ 186 → I' a = I a) → K (nI 0) b I' L) : CI m_M_areBoth [vr 22 186, vi a1, vi a2] b I L K := by
  have h1 := ok.1.1
  have h2 := ok.1.2.1
  have m1 := hm.1.1
  have m2 := hm.1.2.1
  simp only [Nat.zero_add] at m1 m2
  have hM : ∀ a2, (a2 = nM ∨ ∃ j, j < B.nt ∧ a2 = nI j) → (B.tlOf a2).ok := fun a2 h => tlOf_ok ok h
  have no : ¬ ((∃ k, k < B.nv ∧ a1 = nI k) ∧ (a2 = nM ∨ ∃ j, j < B.nt ∧ a2 = nI j)) → tkB B a1 a2 = false := fun q => by
    cases h : tkB B a1 a2 with
    | false => rfl
    | true => exact absurd ((tkB_iff ok).mp h) q
  refine v_M_areBoth_0 ?_
  by_cases c1 : ∃ k, k < B.nv ∧ a1 = nI k
  · obtain ⟨k, hk, rfl⟩ := c1
    refine c_isOf_y (s := 0) (by decide) m1 (by omega) hk ?_
    by_cases c2 : a2 = nM
    · subst c2
      have z : (nM = nM) = True := eq_true rfl
      simp (disch := first | omega | assumption) only [n_lit, n_gLt, n_gLe, n_gEq, n_gEq2, n_gLe2, n_gLt2, n_m1, n_add, n_mul, n_lt, n_le, n_eq, n_cl, n_in, n_rem, n_mlt, n_mle, n_ltm, n_lem, n_eqm, n_meq, n_bit, n_shl, n_b0, n_b1, n_sub, n_inT, nT, nF, lT, lF, eT, eF, not_false_eq_true, not_true_eq_false, sI_at, sI_c, sI_j, aI_at, aI_c, sL_at, sL_c, sL_j, true_and, and_true, not_true_eq_false, not_false_eq_true, forall_const, true_implies, false_implies, implies_true, if_true, if_false, ite_true, ite_false, Bool.not_eq_true, Bool.not_eq_false, Bool.true_eq_false, Bool.false_eq_true, false_and, and_false, or_true, true_or, false_or, or_false, z]
      refine v_M_placeOf_0 ?_
      simp (disch := first | omega | assumption) only [n_lit, n_gLt, n_gLe, n_gEq, n_gEq2, n_gLe2, n_gLt2, n_m1, n_add, n_mul, n_lt, n_le, n_eq, n_cl, n_in, n_rem, n_mlt, n_mle, n_ltm, n_lem, n_eqm, n_meq, n_bit, n_shl, n_b0, n_b1, n_sub, n_inT, nT, nF, lT, lF, eT, eF, not_false_eq_true, not_true_eq_false, sI_at, sI_c, sI_j, aI_at, aI_c, sL_at, sL_c, sL_j, true_and, and_true, not_true_eq_false, not_false_eq_true, forall_const, true_implies, false_implies, implies_true, if_true, if_false, ite_true, ite_false, Bool.not_eq_true, Bool.not_eq_false, Bool.true_eq_false, Bool.false_eq_true, false_and, and_false, or_true, true_or, false_or, or_false, z]
      refine v_M_plain_0 ?_
      have g := hy ((tkB_iff ok).mpr ⟨⟨k, hk, rfl⟩, Or.inl rfl⟩)
      simp (disch := first | omega | assumption) only [n_lit, n_gLt, n_gLe, n_gEq, n_gEq2, n_gLe2, n_gLt2, n_m1, n_add, n_mul, n_lt, n_le, n_eq, n_cl, n_in, n_rem, n_mlt, n_mle, n_ltm, n_lem, n_eqm, n_meq, n_bit, n_shl, n_b0, n_b1, n_sub, n_inT, nT, nF, lT, lF, eT, eF, not_false_eq_true, not_true_eq_false, sI_at, sI_c, sI_j, aI_at, aI_c, sL_at, sL_c, sL_j, true_and, and_true, not_true_eq_false, not_false_eq_true, forall_const, true_implies, false_implies, implies_true, if_true, if_false, ite_true, ite_false, Bool.not_eq_true, Bool.not_eq_false, Bool.true_eq_false, Bool.false_eq_true, false_and, and_false, or_true, true_or, false_or, or_false]
      refine g _ _ (fun a ha => ?_) ⟨k, hk, rfl, plain_made ok hm hk rfl (hM _ (Or.inl rfl)) ?_ ?_ (Or.inl ⟨?_, ?_⟩) ?_ ?_ ?_ ?_ ?_ ?_ ?_⟩
      · simp (disch := first | omega | assumption) only [sI_at, sI_c, sI_j, aI_at, aI_c, sL_at, sL_c, sL_j]
      · simp (disch := first | omega | assumption) only [sI_at, sI_c, sI_j, aI_at, aI_c, sL_at, sL_c, sL_j]
      · simp (disch := first | omega | assumption) only [sI_at, sI_c, sI_j, aI_at, aI_c, sL_at, sL_c, sL_j]
      · unfold Bk.tlOf
        rw [if_pos rfl]
        rfl
      · simp (disch := first | omega | assumption) only [sI_at, sI_c, sI_j, aI_at, aI_c, sL_at, sL_c, sL_j]
      · simp (disch := first | omega | assumption) only [sI_at, sI_c, sI_j, aI_at, aI_c, sL_at, sL_c, sL_j]
      · simp (disch := first | omega | assumption) only [sI_at, sI_c, sI_j, aI_at, aI_c, sL_at, sL_c, sL_j]
      · simp (disch := first | omega | assumption) only [sI_at, sI_c, sI_j, aI_at, aI_c, sL_at, sL_c, sL_j]
      · simp (disch := first | omega | assumption) only [sI_at, sI_c, sI_j, aI_at, aI_c, sL_at, sL_c, sL_j]
      · simp (disch := first | omega | assumption) only [sI_at, sI_c, sI_j, aI_at, aI_c, sL_at, sL_c, sL_j]
      · simp (disch := first | omega | assumption) only [sI_at, sI_c, sI_j, aI_at, aI_c, sL_at, sL_c, sL_j]
      · simp (disch := first | omega | assumption) only [sI_at, sI_c, sI_j, aI_at, aI_c, sL_at, sL_c, sL_j]
    · by_cases c3 : ∃ j, j < B.nt ∧ a2 = nI j
      · obtain ⟨j, hj, rfl⟩ := c3
        simp (disch := first | omega | assumption) only [n_lit, n_gLt, n_gLe, n_gEq, n_gEq2, n_gLe2, n_gLt2, n_m1, n_add, n_mul, n_lt, n_le, n_eq, n_cl, n_in, n_rem, n_mlt, n_mle, n_ltm, n_lem, n_eqm, n_meq, n_bit, n_shl, n_b0, n_b1, n_sub, n_inT, nT, nF, lT, lF, eT, eF, not_false_eq_true, not_true_eq_false, sI_at, sI_c, sI_j, aI_at, aI_c, sL_at, sL_c, sL_j, true_and, and_true, not_true_eq_false, not_false_eq_true, forall_const, true_implies, false_implies, implies_true, if_true, if_false, ite_true, ite_false, Bool.not_eq_true, Bool.not_eq_false, Bool.true_eq_false, Bool.false_eq_true, false_and, and_false, or_true, true_or, false_or, or_false]
        refine c_isOf_y (s := 1) (by decide) m2 (by omega) hj ?_
        simp (disch := first | omega | assumption) only [n_lit, n_gLt, n_gLe, n_gEq, n_gEq2, n_gLe2, n_gLt2, n_m1, n_add, n_mul, n_lt, n_le, n_eq, n_cl, n_in, n_rem, n_mlt, n_mle, n_ltm, n_lem, n_eqm, n_meq, n_bit, n_shl, n_b0, n_b1, n_sub, n_inT, nT, nF, lT, lF, eT, eF, not_false_eq_true, not_true_eq_false, sI_at, sI_c, sI_j, aI_at, aI_c, sL_at, sL_c, sL_j, true_and, and_true, not_true_eq_false, not_false_eq_true, forall_const, true_implies, false_implies, implies_true, if_true, if_false, ite_true, ite_false, Bool.not_eq_true, Bool.not_eq_false, Bool.true_eq_false, Bool.false_eq_true, false_and, and_false, or_true, true_or, false_or, or_false]
        refine v_M_placeOf_0 ?_
        simp (disch := first | omega | assumption) only [n_lit, n_gLt, n_gLe, n_gEq, n_gEq2, n_gLe2, n_gLt2, n_m1, n_add, n_mul, n_lt, n_le, n_eq, n_cl, n_in, n_rem, n_mlt, n_mle, n_ltm, n_lem, n_eqm, n_meq, n_bit, n_shl, n_b0, n_b1, n_sub, n_inT, nT, nF, lT, lF, eT, eF, not_false_eq_true, not_true_eq_false, sI_at, sI_c, sI_j, aI_at, aI_c, sL_at, sL_c, sL_j, true_and, and_true, not_true_eq_false, not_false_eq_true, forall_const, true_implies, false_implies, implies_true, if_true, if_false, ite_true, ite_false, Bool.not_eq_true, Bool.not_eq_false, Bool.true_eq_false, Bool.false_eq_true, false_and, and_false, or_true, true_or, false_or, or_false]
        refine v_M_placeOf_0 ?_
        simp (disch := first | omega | assumption) only [n_lit, n_gLt, n_gLe, n_gEq, n_gEq2, n_gLe2, n_gLt2, n_m1, n_add, n_mul, n_lt, n_le, n_eq, n_cl, n_in, n_rem, n_mlt, n_mle, n_ltm, n_lem, n_eqm, n_meq, n_bit, n_shl, n_b0, n_b1, n_sub, n_inT, nT, nF, lT, lF, eT, eF, not_false_eq_true, not_true_eq_false, sI_at, sI_c, sI_j, aI_at, aI_c, sL_at, sL_c, sL_j, true_and, and_true, not_true_eq_false, not_false_eq_true, forall_const, true_implies, false_implies, implies_true, if_true, if_false, ite_true, ite_false, Bool.not_eq_true, Bool.not_eq_false, Bool.true_eq_false, Bool.false_eq_true, false_and, and_false, or_true, true_or, false_or, or_false]
        refine v_M_plain_0 ?_
        have g := hy ((tkB_iff ok).mpr ⟨⟨k, hk, rfl⟩, Or.inr ⟨j, hj, rfl⟩⟩)
        have e : B.tlOf (nI j) = B.tl j := by
          unfold Bk.tlOf
          rw [if_neg c2, n_cl (by omega)]
        have hT := hm.2.2.2 j hj
        rw [Nat.zero_add] at hT
        rw [e] at g
        simp (disch := first | omega | assumption) only [n_lit, n_gLt, n_gLe, n_gEq, n_gEq2, n_gLe2, n_gLt2, n_m1, n_add, n_mul, n_lt, n_le, n_eq, n_cl, n_in, n_rem, n_mlt, n_mle, n_ltm, n_lem, n_eqm, n_meq, n_bit, n_shl, n_b0, n_b1, n_sub, n_inT, nT, nF, lT, lF, eT, eF, not_false_eq_true, not_true_eq_false, sI_at, sI_c, sI_j, aI_at, aI_c, sL_at, sL_c, sL_j, true_and, and_true, not_true_eq_false, not_false_eq_true, forall_const, true_implies, false_implies, implies_true, if_true, if_false, ite_true, ite_false, Bool.not_eq_true, Bool.not_eq_false, Bool.true_eq_false, Bool.false_eq_true, false_and, and_false, or_true, true_or, false_or, or_false]
        refine g _ _ (fun a ha => ?_) ⟨k, hk, rfl, plain_made ok hm hk rfl (ok.2.2.2 j hj) ?_ ?_ (Or.inr ⟨1010 + 122 * j, by omega, by omega, ?_, telM_fr ?_ hT⟩) ?_ ?_ ?_ ?_ ?_ ?_ ?_⟩
        · simp (disch := first | omega | assumption) only [sI_at, sI_c, sI_j, aI_at, aI_c, sL_at, sL_c, sL_j]
        · simp (disch := first | omega | assumption) only [sI_at, sI_c, sI_j, aI_at, aI_c, sL_at, sL_c, sL_j]
        · simp (disch := first | omega | assumption) only [sI_at, sI_c, sI_j, aI_at, aI_c, sL_at, sL_c, sL_j]
        · simp (disch := first | omega | assumption) only [sI_at, sI_c, sI_j, aI_at, aI_c, sL_at, sL_c, sL_j]
        · simp (disch := first | omega | assumption) only [sI_at, sI_c, sI_j, aI_at, aI_c, sL_at, sL_c, sL_j]
        · simp (disch := first | omega | assumption) only [sI_at, sI_c, sI_j, aI_at, aI_c, sL_at, sL_c, sL_j]
        · simp (disch := first | omega | assumption) only [sI_at, sI_c, sI_j, aI_at, aI_c, sL_at, sL_c, sL_j]
        · simp (disch := first | omega | assumption) only [sI_at, sI_c, sI_j, aI_at, aI_c, sL_at, sL_c, sL_j]
        · simp (disch := first | omega | assumption) only [sI_at, sI_c, sI_j, aI_at, aI_c, sL_at, sL_c, sL_j]
        · simp (disch := first | omega | assumption) only [sI_at, sI_c, sI_j, aI_at, aI_c, sL_at, sL_c, sL_j]
        · simp (disch := first | omega | assumption) only [sI_at, sI_c, sI_j, aI_at, aI_c, sL_at, sL_c, sL_j]
        · simp (disch := first | omega | assumption) only [sI_at, sI_c, sI_j, aI_at, aI_c, sL_at, sL_c, sL_j]
      · have g := hn (no (fun q => q.2.elim c2 c3)) I (fun _ _ => rfl)
        simp (disch := first | omega | assumption) only [n_lit, n_gLt, n_gLe, n_gEq, n_gEq2, n_gLe2, n_gLt2, n_m1, n_add, n_mul, n_lt, n_le, n_eq, n_cl, n_in, n_rem, n_mlt, n_mle, n_ltm, n_lem, n_eqm, n_meq, n_bit, n_shl, n_b0, n_b1, n_sub, n_inT, nT, nF, lT, lF, eT, eF, not_false_eq_true, not_true_eq_false, sI_at, sI_c, sI_j, aI_at, aI_c, sL_at, sL_c, sL_j, true_and, and_true, not_true_eq_false, not_false_eq_true, forall_const, true_implies, false_implies, implies_true, if_true, if_false, ite_true, ite_false, Bool.not_eq_true, Bool.not_eq_false, Bool.true_eq_false, Bool.false_eq_true, false_and, and_false, or_true, true_or, false_or, or_false, c2]
        refine c_isOf_n (s := 1) (by decide) m2 (by omega) (tk_out (by omega) c3) ?_
        simp (disch := first | omega | assumption) only [n_lit, n_gLt, n_gLe, n_gEq, n_gEq2, n_gLe2, n_gLt2, n_m1, n_add, n_mul, n_lt, n_le, n_eq, n_cl, n_in, n_rem, n_mlt, n_mle, n_ltm, n_lem, n_eqm, n_meq, n_bit, n_shl, n_b0, n_b1, n_sub, n_inT, nT, nF, lT, lF, eT, eF, not_false_eq_true, not_true_eq_false, sI_at, sI_c, sI_j, aI_at, aI_c, sL_at, sL_c, sL_j, true_and, and_true, not_true_eq_false, not_false_eq_true, forall_const, true_implies, false_implies, implies_true, if_true, if_false, ite_true, ite_false, Bool.not_eq_true, Bool.not_eq_false, Bool.true_eq_false, Bool.false_eq_true, false_and, and_false, or_true, true_or, false_or, or_false]
        exact g
  · refine c_isOf_n (s := 0) (by decide) m1 (by omega) (tk_out (by omega) c1) ?_
    have g := hn (no (fun q => c1 q.1)) I (fun _ _ => rfl)
    simp (disch := first | omega | assumption) only [n_lit, n_gLt, n_gLe, n_gEq, n_gEq2, n_gLe2, n_gLt2, n_m1, n_add, n_mul, n_lt, n_le, n_eq, n_cl, n_in, n_rem, n_mlt, n_mle, n_ltm, n_lem, n_eqm, n_meq, n_bit, n_shl, n_b0, n_b1, n_sub, n_inT, nT, nF, lT, lF, eT, eF, not_false_eq_true, not_true_eq_false, sI_at, sI_c, sI_j, aI_at, aI_c, sL_at, sL_c, sL_j, true_and, and_true, not_true_eq_false, not_false_eq_true, forall_const, true_implies, false_implies, implies_true, if_true, if_false, ite_true, ite_false, Bool.not_eq_true, Bool.not_eq_false, Bool.true_eq_false, Bool.false_eq_true, false_and, and_false, or_true, true_or, false_or, or_false]
    exact g
