/-! IMAGES -/
theorem vilM_sh {o o' : Nat} {v : Vil} {I I' : MI} (hv : v.m ≤ 40) (h : ∀ j, j < 200 → I' 187 (o' + j) = I 187 (o + j)) (k : vilM o v I) : vilM o' v I' := by
  obtain ⟨⟨v1, v2, v3, v4, v5⟩, v6, v7⟩ := k
  refine ⟨⟨(h 0 (by omega)).trans v1, (h 1 (by omega)).trans v2, (h 2 (by omega)).trans v3, (h 3 (by omega)).trans v4, (h 4 (by omega)).trans v5⟩, fun p hp => ?_, fun t ht => ?_⟩
  · have e1 := h (5 + p) (by omega)
    have e2 := h (21 + p) (by omega)
    simp only [← Nat.add_assoc] at e1 e2
    rw [e1, e2]
    exact v6 p hp
  · have e1 := h (37 + 4 * t) (by omega)
    have e2 := h (37 + 4 * t + 1) (by omega)
    have e3 := h (37 + 4 * t + 2) (by omega)
    have e4 := h (37 + 4 * t + 3) (by omega)
    simp only [← Nat.add_assoc] at e1 e2 e3 e4
    rw [e1, e2, e3, e4]
    exact v7 t ht
theorem telM_sh {o o' : Nat} {t : Tel} {I I' : MI} (ht : t.n ≤ 30) (h : ∀ j, j < 122 → I' 187 (o' + j) = I 187 (o + j)) (k : telM o t I) : telM o' t I' := by
  obtain ⟨v1, v7⟩ := k
  refine ⟨(h 0 (by omega)).trans v1, fun t ht => ?_⟩
  have e1 := h (1 + 4 * t) (by omega)
  have e2 := h (1 + 4 * t + 1) (by omega)
  have e3 := h (1 + 4 * t + 2) (by omega)
  have e4 := h (1 + 4 * t + 3) (by omega)
  simp only [← Nat.add_assoc] at e1 e2 e3 e4
  rw [e1, e2, e3, e4]
  exact v7 t ht
theorem bkM_sh {o o' : Nat} {B : Bk} {I I' : MI} (hB : B.ok) (h : ∀ j, j < 1376 → I' 187 (o' + j) = I 187 (o + j)) (k : bkM o B I) : bkM o' B I' := by
  obtain ⟨⟨v1, v2, v3, v4, v5⟩, k2, k3, k4⟩ := k
  obtain ⟨⟨o1, o2, o3, o4⟩, o5, o6, o7⟩ := hB
  refine ⟨⟨(h 0 (by omega)).trans v1, (h 1 (by omega)).trans v2, (h 2 (by omega)).trans v3, (h 3 (by omega)).trans v4, (h 4 (by omega)).trans v5⟩, fun j hj => ?_, fun j hj => ?_, fun j hj => ?_⟩
  · have e1 := h (10 + j) (by omega)
    simp only [← Nat.add_assoc] at e1
    rw [e1]
    exact k2 j hj
  · refine vilM_sh (o6 j hj).2.1 (fun i hi => ?_) (k3 j hj)
    have e1 := h (610 + 200 * j + i) (by omega)
    simp only [← Nat.add_assoc] at e1
    exact e1
  · refine telM_sh (o7 j hj).1 (fun i hi => ?_) (k4 j hj)
    have e1 := h (1010 + 122 * j + i) (by omega)
    simp only [← Nat.add_assoc] at e1
    exact e1
theorem m_image_l {k : Nat} (hk : k < 3) (I0 : MI) {K : Int32 → Bool → MI → ML → Prop} {b : Bool} {L : ML} (hK : ∀ I', (∀ a, a ≠ 187 → I' a = I0 a) → (∀ j, I' 187 j = if 1376 * (k + 1) ≤ j ∧ j < 1376 * (k + 1) + 1376 then I0 187 (j - 1376 * (k + 1)) else I0 187 j) → K (nI 1) b I' L) : ∀ n i, i + n = 1376 → ∀ I, (∀ a, a ≠ 187 → I a = I0 a) → (∀ j, I 187 j = if 1376 * (k + 1) ≤ j ∧ j < 1376 * (k + 1) + i then I0 187 (j - 1376 * (k + 1)) else I0 187 j) → SW m_M_image 20 [vr 22 186, vi (nI k), vi (nI i)] [] b I L (kI K) := by
  intro n
  induction n with
  | zero =>
    intro i hi I h1 h2
    obtain rfl : i = 1376 := by omega
    refine v_M_image_20 ?_
    simp (disch := first | omega | assumption) only [n_lit, n_gLt, n_gLe, n_gEq, n_gEq2, n_gLe2, n_gLt2, n_m1, n_add, n_mul, n_lt, n_le, n_eq, n_cl, n_in, n_rem, n_mlt, n_mle, n_ltm, n_lem, n_eqm, n_meq, n_bit, n_shl, n_b0, n_b1, n_sub, n_inT, nT, nF, lT, lF, eT, eF, not_false_eq_true, not_true_eq_false, sI_at, sI_c, sI_j, aI_at, aI_c, sL_at, sL_c, sL_j, true_and, and_true, not_true_eq_false, not_false_eq_true, forall_const, true_implies, false_implies, implies_true, if_true, if_false, ite_true, ite_false, Bool.not_eq_true, Bool.not_eq_false, Bool.true_eq_false, Bool.false_eq_true, false_and, and_false, or_true, true_or, false_or, or_false]
    exact hK I h1 h2
  | succ n ih =>
    intro i hi I h1 h2
    refine v_M_image_20 ?_
    simp (disch := first | omega | assumption) only [n_lit, n_gLt, n_gLe, n_gEq, n_gEq2, n_gLe2, n_gLt2, n_m1, n_add, n_mul, n_lt, n_le, n_eq, n_cl, n_in, n_rem, n_mlt, n_mle, n_ltm, n_lem, n_eqm, n_meq, n_bit, n_shl, n_b0, n_b1, n_sub, n_inT, nT, nF, lT, lF, eT, eF, not_false_eq_true, not_true_eq_false, sI_at, sI_c, sI_j, aI_at, aI_c, sL_at, sL_c, sL_j, true_and, and_true, not_true_eq_false, not_false_eq_true, forall_const, true_implies, false_implies, implies_true, if_true, if_false, ite_true, ite_false, Bool.not_eq_true, Bool.not_eq_false, Bool.true_eq_false, Bool.false_eq_true, false_and, and_false, or_true, true_or, false_or, or_false]
    refine ih (i + 1) (by omega) _ (fun a ha => ?_) (fun j => ?_)
    · rw [sI_c ha, h1 a ha]
    · by_cases e : j = 1376 * (k + 1) + i
      · subst e
        rw [sI_at, if_pos (by omega), h2, if_neg (by omega), show 1376 * (k + 1) + i - 1376 * (k + 1) = i by omega]
      · rw [sI_j e, h2]
        by_cases c : 1376 * (k + 1) ≤ j ∧ j < 1376 * (k + 1) + i
        · rw [if_pos c, if_pos (by omega)]
        · rw [if_neg c, if_neg (by omega)]
theorem m_again_l {k : Nat} (hk : k < 3) (I0 : MI) {K : Int32 → Bool → MI → ML → Prop} {b : Bool} {L : ML} (hK : ∀ I', (∀ a, a ≠ 187 → I' a = I0 a) → (∀ j, I' 187 j = if j < 1376 then I0 187 (1376 * (k + 1) + j) else I0 187 j) → K (nI 1) b I' L) : ∀ n i, i + n = 1376 → ∀ I, (∀ a, a ≠ 187 → I a = I0 a) → (∀ j, I 187 j = if j < i then I0 187 (1376 * (k + 1) + j) else I0 187 j) → SW m_M_again 22 [vr 22 186, vi (nI k), vi (nI i)] [] b I L (kI K) := by
  intro n
  induction n with
  | zero =>
    intro i hi I h1 h2
    obtain rfl : i = 1376 := by omega
    refine v_M_again_22 ?_
    simp (disch := first | omega | assumption) only [n_lit, n_gLt, n_gLe, n_gEq, n_gEq2, n_gLe2, n_gLt2, n_m1, n_add, n_mul, n_lt, n_le, n_eq, n_cl, n_in, n_rem, n_mlt, n_mle, n_ltm, n_lem, n_eqm, n_meq, n_bit, n_shl, n_b0, n_b1, n_sub, n_inT, nT, nF, lT, lF, eT, eF, not_false_eq_true, not_true_eq_false, sI_at, sI_c, sI_j, aI_at, aI_c, sL_at, sL_c, sL_j, true_and, and_true, not_true_eq_false, not_false_eq_true, forall_const, true_implies, false_implies, implies_true, if_true, if_false, ite_true, ite_false, Bool.not_eq_true, Bool.not_eq_false, Bool.true_eq_false, Bool.false_eq_true, false_and, and_false, or_true, true_or, false_or, or_false]
    exact hK I h1 h2
  | succ n ih =>
    intro i hi I h1 h2
    refine v_M_again_22 ?_
    simp (disch := first | omega | assumption) only [n_lit, n_gLt, n_gLe, n_gEq, n_gEq2, n_gLe2, n_gLt2, n_m1, n_add, n_mul, n_lt, n_le, n_eq, n_cl, n_in, n_rem, n_mlt, n_mle, n_ltm, n_lem, n_eqm, n_meq, n_bit, n_shl, n_b0, n_b1, n_sub, n_inT, nT, nF, lT, lF, eT, eF, not_false_eq_true, not_true_eq_false, sI_at, sI_c, sI_j, aI_at, aI_c, sL_at, sL_c, sL_j, true_and, and_true, not_true_eq_false, not_false_eq_true, forall_const, true_implies, false_implies, implies_true, if_true, if_false, ite_true, ite_false, Bool.not_eq_true, Bool.not_eq_false, Bool.true_eq_false, Bool.false_eq_true, false_and, and_false, or_true, true_or, false_or, or_false]
    refine ih (i + 1) (by omega) _ (fun a ha => ?_) (fun j => ?_)
    · rw [sI_c ha, h1 a ha]
    · by_cases e : j = i
      · subst e
        rw [sI_at, if_pos (by omega), h2, if_neg (by omega)]
      · rw [sI_j e, h2]
        by_cases c : j < i
        · rw [if_pos c, if_pos (by omega)]
        · rw [if_neg c, if_neg (by omega)]
theorem op_image : H_image := by
  intro a1 I hR
  obtain ⟨B, hB⟩ := hR
  obtain ⟨ok, hc, hm, hi⟩ := id hB
  by_cases q : ∃ k, k < 3 ∧ a1 = nI k
  · obtain ⟨k, hk, rfl⟩ := q
    refine ⟨fun v I' => v = nI 1 ∧ (∀ a, a < 36 + 34 * k ∨ 70 + 34 * k ≤ a → a ≠ 138 → I' a = I a) ∧ bkC (36 + 34 * k) B I' ∧ (∀ j, j ≠ k → I' 138 j = I 138 j) ∧ I' 138 k = nI 1, fun b L K kk => v_S_image_0 ?_, ?_⟩
    · simp (disch := first | omega | assumption) only [n_lit, n_gLt, n_gLe, n_gEq, n_gEq2, n_gLe2, n_gLt2, n_m1, n_add, n_mul, n_lt, n_le, n_eq, n_cl, n_in, n_rem, n_mlt, n_mle, n_ltm, n_lem, n_eqm, n_meq, n_bit, n_shl, n_b0, n_b1, n_sub, n_inT, nT, nF, lT, lF, eT, eF, not_false_eq_true, not_true_eq_false, sI_at, sI_c, sI_j, aI_at, aI_c, sL_at, sL_c, sL_j, true_and, and_true, not_true_eq_false, not_false_eq_true, forall_const, true_implies, false_implies, implies_true, if_true, if_false, ite_true, ite_false, Bool.not_eq_true, Bool.not_eq_false, Bool.true_eq_false, Bool.false_eq_true, false_and, and_false, or_true, true_or, false_or, or_false]
      refine c_Book_copy (by omega) ok hc (fun I' f1 p1 => ?_)
      refine kk (nI 1) b _ L ⟨rfl, fun a h1 h2 => ?_, bkC_fr ok (fun a h1 h2 => ?_) p1, fun j hj => ?_, sI_at _ _ _ _⟩ (fun a ha => ?_)
      · rw [sI_c h2, f1 a (by omega)]
      · exact sI_c (by omega)
      · rw [sI_j hj, f1 138 (by omega)]
      · rw [sI_c (by omega), f1 a (by omega)]
    · rintro v I1 ⟨rfl, h1, h2, h3, h4⟩ b L K kk
      refine v_M_image_0 (v_M_isIn_0 ?_)
      simp (disch := first | omega | assumption) only [n_lit, n_gLt, n_gLe, n_gEq, n_gEq2, n_gLe2, n_gLt2, n_m1, n_add, n_mul, n_lt, n_le, n_eq, n_cl, n_in, n_rem, n_mlt, n_mle, n_ltm, n_lem, n_eqm, n_meq, n_bit, n_shl, n_b0, n_b1, n_sub, n_inT, nT, nF, lT, lF, eT, eF, not_false_eq_true, not_true_eq_false, sI_at, sI_c, sI_j, aI_at, aI_c, sL_at, sL_c, sL_j, true_and, and_true, not_true_eq_false, not_false_eq_true, forall_const, true_implies, false_implies, implies_true, if_true, if_false, ite_true, ite_false, Bool.not_eq_true, Bool.not_eq_false, Bool.true_eq_false, Bool.false_eq_true, false_and, and_false, or_true, true_or, false_or, or_false]
      have e7 : I1 187 = I 187 := h1 187 (by omega) (by decide)
      have e8 : I1 188 = I 188 := h1 188 (by omega) (by decide)
      refine m_image_l hk (sI I1 188 k (nI 1)) (fun I' f1 p1 => ?_) 1376 0 (by omega) _ (fun _ _ => rfl) (fun j => by rw [if_neg (by omega)])
      have f2 : ∀ a, a ≠ 187 → a ≠ 188 → I' a = I1 a := fun a h5 h6 => (f1 a h5).trans (sI_c h6)
      have p2 : ∀ j, I' 187 j = if 1376 * (k + 1) ≤ j ∧ j < 1376 * (k + 1) + 1376 then I 187 (j - 1376 * (k + 1)) else I 187 j := fun j => by
        rw [p1 j, sI_c (by decide), e7]
      refine kk b I' L ⟨B, ok, bkC_fr ok (fun a c1 c2 => (f2 a (by omega) (by omega)).trans (h1 a (by omega) (by omega))) hc, bkM_at ok (fun j c1 c2 => by rw [p2, if_neg (by omega)]) hm, fun j hj => ?_⟩ (fun a ha => f2 a (by omega) (by omega))
      have g1 : I' 138 = I1 138 := f2 138 (by decide) (by decide)
      have g2 : I' 188 = sI I1 188 k (nI 1) 188 := f1 188 (by decide)
      rw [g1, g2]
      by_cases e : j = k
      · subst e
        refine Or.inr ⟨h4, sI_at _ _ _ _, B, ok, bkC_fr ok (fun a c1 c2 => f2 a (by omega) (by omega)) h2, bkM_sh ok (fun i c1 => ?_) hm⟩
        rw [p2, if_pos (by omega), show 1376 * (j + 1) + i - 1376 * (j + 1) = 0 + i by omega]
      · rw [h3 j e, sI_j e, e8]
        rcases hi j hj with q | ⟨q1, q2, B', q3, q4, q5⟩
        · exact Or.inl q
        · exact Or.inr ⟨q1, q2, B', q3, bkC_fr q3 (fun a c1 c2 => (f2 a (by omega) (by omega)).trans (h1 a (by omega) (by omega))) q4, bkM_at q3 (fun i c1 c2 => by rw [p2, if_neg (by omega)]) q5⟩
  · have hq : a1 < nI 0 ∨ ∃ j, 3 ≤ j ∧ j < 2147483648 ∧ a1 = nI j := by
      rcases n_sgn a1 with h | ⟨j, g, rfl⟩
      · exact Or.inl h
      · exact Or.inr ⟨j, Nat.not_lt.mp fun h => q ⟨j, h, rfl⟩, g, rfl⟩
    refine ⟨fun v I' => v = nI 0 ∧ I' = I, fun b L K k => v_S_image_0 ?_, ?_⟩
    · have := k (nI 0) b _ L ⟨rfl, rfl⟩ (fun a ha => rfl)
      rcases hq with h | ⟨j, g1, g2, rfl⟩
      · simp (disch := first | omega | assumption) only [n_lit, n_gLt, n_gLe, n_gEq, n_gEq2, n_gLe2, n_gLt2, n_m1, n_add, n_mul, n_lt, n_le, n_eq, n_cl, n_in, n_rem, n_mlt, n_mle, n_ltm, n_lem, n_eqm, n_meq, n_bit, n_shl, n_b0, n_b1, n_sub, n_inT, nT, nF, lT, lF, eT, eF, not_false_eq_true, not_true_eq_false, sI_at, sI_c, sI_j, aI_at, aI_c, sL_at, sL_c, sL_j, true_and, and_true, not_true_eq_false, not_false_eq_true, forall_const, true_implies, false_implies, implies_true, if_true, if_false, ite_true, ite_false, Bool.not_eq_true, Bool.not_eq_false, Bool.true_eq_false, Bool.false_eq_true, false_and, and_false, or_true, true_or, false_or, or_false]
        exact this
      · simp (disch := first | omega | assumption) only [n_lit, n_gLt, n_gLe, n_gEq, n_gEq2, n_gLe2, n_gLt2, n_m1, n_add, n_mul, n_lt, n_le, n_eq, n_cl, n_in, n_rem, n_mlt, n_mle, n_ltm, n_lem, n_eqm, n_meq, n_bit, n_shl, n_b0, n_b1, n_sub, n_inT, nT, nF, lT, lF, eT, eF, not_false_eq_true, not_true_eq_false, sI_at, sI_c, sI_j, aI_at, aI_c, sL_at, sL_c, sL_j, true_and, and_true, not_true_eq_false, not_false_eq_true, forall_const, true_implies, false_implies, implies_true, if_true, if_false, ite_true, ite_false, Bool.not_eq_true, Bool.not_eq_false, Bool.true_eq_false, Bool.false_eq_true, false_and, and_false, or_true, true_or, false_or, or_false]
        exact this
    · rintro v I1 ⟨rfl, rfl⟩ b L K k
      have := k b _ L ⟨B, hB⟩ (fun a ha => rfl)
      refine v_M_image_0 (v_M_isIn_0 ?_)
      rcases hq with h | ⟨j, g1, g2, rfl⟩
      · simp (disch := first | omega | assumption) only [n_lit, n_gLt, n_gLe, n_gEq, n_gEq2, n_gLe2, n_gLt2, n_m1, n_add, n_mul, n_lt, n_le, n_eq, n_cl, n_in, n_rem, n_mlt, n_mle, n_ltm, n_lem, n_eqm, n_meq, n_bit, n_shl, n_b0, n_b1, n_sub, n_inT, nT, nF, lT, lF, eT, eF, not_false_eq_true, not_true_eq_false, sI_at, sI_c, sI_j, aI_at, aI_c, sL_at, sL_c, sL_j, true_and, and_true, not_true_eq_false, not_false_eq_true, forall_const, true_implies, false_implies, implies_true, if_true, if_false, ite_true, ite_false, Bool.not_eq_true, Bool.not_eq_false, Bool.true_eq_false, Bool.false_eq_true, false_and, and_false, or_true, true_or, false_or, or_false]
        exact this
      · simp (disch := first | omega | assumption) only [n_lit, n_gLt, n_gLe, n_gEq, n_gEq2, n_gLe2, n_gLt2, n_m1, n_add, n_mul, n_lt, n_le, n_eq, n_cl, n_in, n_rem, n_mlt, n_mle, n_ltm, n_lem, n_eqm, n_meq, n_bit, n_shl, n_b0, n_b1, n_sub, n_inT, nT, nF, lT, lF, eT, eF, not_false_eq_true, not_true_eq_false, sI_at, sI_c, sI_j, aI_at, aI_c, sL_at, sL_c, sL_j, true_and, and_true, not_true_eq_false, not_false_eq_true, forall_const, true_implies, false_implies, implies_true, if_true, if_false, ite_true, ite_false, Bool.not_eq_true, Bool.not_eq_false, Bool.true_eq_false, Bool.false_eq_true, false_and, and_false, or_true, true_or, false_or, or_false]
        exact this
theorem op_again : H_again := by
  intro a1 I hR
  obtain ⟨B, hB⟩ := hR
  obtain ⟨ok, hc, hm, hi⟩ := id hB
  by_cases q : ∃ k, k < 3 ∧ a1 = nI k
  · obtain ⟨k, hk, rfl⟩ := q
    rcases hi k hk with ⟨q1, q2⟩ | ⟨q1, q2, B', q3, q4, q5⟩
    · refine ⟨fun v I' => v = nI 0 ∧ I' = I, fun b L K kk => v_S_again_0 ?_, ?_⟩
      · have := kk (nI 0) b _ L ⟨rfl, rfl⟩ (fun a ha => rfl)
        simp (disch := first | omega | assumption) only [n_lit, n_gLt, n_gLe, n_gEq, n_gEq2, n_gLe2, n_gLt2, n_m1, n_add, n_mul, n_lt, n_le, n_eq, n_cl, n_in, n_rem, n_mlt, n_mle, n_ltm, n_lem, n_eqm, n_meq, n_bit, n_shl, n_b0, n_b1, n_sub, n_inT, nT, nF, lT, lF, eT, eF, not_false_eq_true, not_true_eq_false, sI_at, sI_c, sI_j, aI_at, aI_c, sL_at, sL_c, sL_j, true_and, and_true, not_true_eq_false, not_false_eq_true, forall_const, true_implies, false_implies, implies_true, if_true, if_false, ite_true, ite_false, Bool.not_eq_true, Bool.not_eq_false, Bool.true_eq_false, Bool.false_eq_true, false_and, and_false, or_true, true_or, false_or, or_false, q1]
        exact this
      · rintro v I1 ⟨rfl, rfl⟩ b L K kk
        have := kk b _ L ⟨B, hB⟩ (fun a ha => rfl)
        refine v_M_again_0 (v_M_isIn_0 ?_)
        simp (disch := first | omega | assumption) only [n_lit, n_gLt, n_gLe, n_gEq, n_gEq2, n_gLe2, n_gLt2, n_m1, n_add, n_mul, n_lt, n_le, n_eq, n_cl, n_in, n_rem, n_mlt, n_mle, n_ltm, n_lem, n_eqm, n_meq, n_bit, n_shl, n_b0, n_b1, n_sub, n_inT, nT, nF, lT, lF, eT, eF, not_false_eq_true, not_true_eq_false, sI_at, sI_c, sI_j, aI_at, aI_c, sL_at, sL_c, sL_j, true_and, and_true, not_true_eq_false, not_false_eq_true, forall_const, true_implies, false_implies, implies_true, if_true, if_false, ite_true, ite_false, Bool.not_eq_true, Bool.not_eq_false, Bool.true_eq_false, Bool.false_eq_true, false_and, and_false, or_true, true_or, false_or, or_false, q2]
        exact this
    · refine ⟨fun v I' => v = nI 1 ∧ (∀ a, a < 1 ∨ 35 ≤ a → I' a = I a) ∧ bkC 1 B' I', fun b L K kk => v_S_again_0 ?_, ?_⟩
      · simp (disch := first | omega | assumption) only [n_lit, n_gLt, n_gLe, n_gEq, n_gEq2, n_gLe2, n_gLt2, n_m1, n_add, n_mul, n_lt, n_le, n_eq, n_cl, n_in, n_rem, n_mlt, n_mle, n_ltm, n_lem, n_eqm, n_meq, n_bit, n_shl, n_b0, n_b1, n_sub, n_inT, nT, nF, lT, lF, eT, eF, not_false_eq_true, not_true_eq_false, sI_at, sI_c, sI_j, aI_at, aI_c, sL_at, sL_c, sL_j, true_and, and_true, not_true_eq_false, not_false_eq_true, forall_const, true_implies, false_implies, implies_true, if_true, if_false, ite_true, ite_false, Bool.not_eq_true, Bool.not_eq_false, Bool.true_eq_false, Bool.false_eq_true, false_and, and_false, or_true, true_or, false_or, or_false, q1]
        refine c_Book_copy (r1 := 36 + 34 * k) (by omega) q3 q4 (fun I' f1 p1 => ?_)
        exact kk (nI 1) b _ L ⟨rfl, fun a h1 => f1 a (by omega), p1⟩ (fun a ha => f1 a (by omega))
      · rintro v I1 ⟨rfl, h1, h2⟩ b L K kk
        refine v_M_again_0 (v_M_isIn_0 ?_)
        have e7 : I1 187 = I 187 := h1 187 (by omega)
        have e8 : I1 188 k = nI 1 := (congrFun (h1 188 (by omega)) k).trans q2
        simp (disch := first | omega | assumption) only [n_lit, n_gLt, n_gLe, n_gEq, n_gEq2, n_gLe2, n_gLt2, n_m1, n_add, n_mul, n_lt, n_le, n_eq, n_cl, n_in, n_rem, n_mlt, n_mle, n_ltm, n_lem, n_eqm, n_meq, n_bit, n_shl, n_b0, n_b1, n_sub, n_inT, nT, nF, lT, lF, eT, eF, not_false_eq_true, not_true_eq_false, sI_at, sI_c, sI_j, aI_at, aI_c, sL_at, sL_c, sL_j, true_and, and_true, not_true_eq_false, not_false_eq_true, forall_const, true_implies, false_implies, implies_true, if_true, if_false, ite_true, ite_false, Bool.not_eq_true, Bool.not_eq_false, Bool.true_eq_false, Bool.false_eq_true, false_and, and_false, or_true, true_or, false_or, or_false, e8]
        refine m_again_l hk I1 (fun I' f1 p1 => ?_) 1376 0 (by omega) _ (fun _ _ => rfl) (fun j => by rw [if_neg (by omega)])
        have p2 : ∀ j, I' 187 j = if j < 1376 then I 187 (1376 * (k + 1) + j) else I 187 j := fun j => by rw [p1 j, e7]
        refine kk b I' L ⟨B', q3, bkC_fr q3 (fun a c1 c2 => f1 a (by omega)) h2, bkM_sh q3 (fun i c1 => ?_) q5, RImg_at (fun a c1 c2 => (f1 a (by omega)).trans (h1 a (by omega))) (fun j hj => by rw [p2, if_neg (by omega)]) ((f1 188 (by decide)).trans (h1 188 (by decide))) hi⟩ (fun a ha => f1 a (by omega))
        rw [p2, if_pos (by omega), Nat.zero_add]
  · have hq : a1 < nI 0 ∨ ∃ j, 3 ≤ j ∧ j < 2147483648 ∧ a1 = nI j := by
      rcases n_sgn a1 with h | ⟨j, g, rfl⟩
      · exact Or.inl h
      · exact Or.inr ⟨j, Nat.not_lt.mp fun h => q ⟨j, h, rfl⟩, g, rfl⟩
    refine ⟨fun v I' => v = nI 0 ∧ I' = I, fun b L K k => v_S_again_0 ?_, ?_⟩
    · have := k (nI 0) b _ L ⟨rfl, rfl⟩ (fun a ha => rfl)
      rcases hq with h | ⟨j, g1, g2, rfl⟩
      · simp (disch := first | omega | assumption) only [n_lit, n_gLt, n_gLe, n_gEq, n_gEq2, n_gLe2, n_gLt2, n_m1, n_add, n_mul, n_lt, n_le, n_eq, n_cl, n_in, n_rem, n_mlt, n_mle, n_ltm, n_lem, n_eqm, n_meq, n_bit, n_shl, n_b0, n_b1, n_sub, n_inT, nT, nF, lT, lF, eT, eF, not_false_eq_true, not_true_eq_false, sI_at, sI_c, sI_j, aI_at, aI_c, sL_at, sL_c, sL_j, true_and, and_true, not_true_eq_false, not_false_eq_true, forall_const, true_implies, false_implies, implies_true, if_true, if_false, ite_true, ite_false, Bool.not_eq_true, Bool.not_eq_false, Bool.true_eq_false, Bool.false_eq_true, false_and, and_false, or_true, true_or, false_or, or_false]
        exact this
      · simp (disch := first | omega | assumption) only [n_lit, n_gLt, n_gLe, n_gEq, n_gEq2, n_gLe2, n_gLt2, n_m1, n_add, n_mul, n_lt, n_le, n_eq, n_cl, n_in, n_rem, n_mlt, n_mle, n_ltm, n_lem, n_eqm, n_meq, n_bit, n_shl, n_b0, n_b1, n_sub, n_inT, nT, nF, lT, lF, eT, eF, not_false_eq_true, not_true_eq_false, sI_at, sI_c, sI_j, aI_at, aI_c, sL_at, sL_c, sL_j, true_and, and_true, not_true_eq_false, not_false_eq_true, forall_const, true_implies, false_implies, implies_true, if_true, if_false, ite_true, ite_false, Bool.not_eq_true, Bool.not_eq_false, Bool.true_eq_false, Bool.false_eq_true, false_and, and_false, or_true, true_or, false_or, or_false]
        exact this
    · rintro v I1 ⟨rfl, rfl⟩ b L K k
      have := k b _ L ⟨B, hB⟩ (fun a ha => rfl)
      refine v_M_again_0 (v_M_isIn_0 ?_)
      rcases hq with h | ⟨j, g1, g2, rfl⟩
      · simp (disch := first | omega | assumption) only [n_lit, n_gLt, n_gLe, n_gEq, n_gEq2, n_gLe2, n_gLt2, n_m1, n_add, n_mul, n_lt, n_le, n_eq, n_cl, n_in, n_rem, n_mlt, n_mle, n_ltm, n_lem, n_eqm, n_meq, n_bit, n_shl, n_b0, n_b1, n_sub, n_inT, nT, nF, lT, lF, eT, eF, not_false_eq_true, not_true_eq_false, sI_at, sI_c, sI_j, aI_at, aI_c, sL_at, sL_c, sL_j, true_and, and_true, not_true_eq_false, not_false_eq_true, forall_const, true_implies, false_implies, implies_true, if_true, if_false, ite_true, ite_false, Bool.not_eq_true, Bool.not_eq_false, Bool.true_eq_false, Bool.false_eq_true, false_and, and_false, or_true, true_or, false_or, or_false]
        exact this
      · simp (disch := first | omega | assumption) only [n_lit, n_gLt, n_gLe, n_gEq, n_gEq2, n_gLe2, n_gLt2, n_m1, n_add, n_mul, n_lt, n_le, n_eq, n_cl, n_in, n_rem, n_mlt, n_mle, n_ltm, n_lem, n_eqm, n_meq, n_bit, n_shl, n_b0, n_b1, n_sub, n_inT, nT, nF, lT, lF, eT, eF, not_false_eq_true, not_true_eq_false, sI_at, sI_c, sI_j, aI_at, aI_c, sL_at, sL_c, sL_j, true_and, and_true, not_true_eq_false, not_false_eq_true, forall_const, true_implies, false_implies, implies_true, if_true, if_false, ite_true, ite_false, Bool.not_eq_true, Bool.not_eq_false, Bool.true_eq_false, Bool.false_eq_true, false_and, and_false, or_true, true_or, false_or, or_false]
        exact this
