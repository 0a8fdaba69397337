/-! COPIES: image, again -/
theorem cpy0 {α : Type} {f g : Nat → α} {n p : Nat} (h : p < n) : va_cpy f g 0 0 n p = f p := by
  unfold va_cpy
  rw [if_pos ⟨Nat.zero_le _, by omega⟩, Nat.zero_add, Nat.sub_zero]
theorem tn0 : ((0 : Int32)).toNatClampNeg = 0 := rfl
theorem tn16 : ((16 : Int32)).toNatClampNeg = 16 := rfl
theorem tn41 : ((41 : Int32)).toNatClampNeg = 41 := rfl
theorem tn30 : ((30 : Int32)).toNatClampNeg = 30 := rfl
theorem tn600 : ((600 : Int32)).toNatClampNeg = 600 := rfl
def cpV (r0 r1 : Nat) (I' I : MI) : Prop := (I' r0 0 = I r1 0 ∧ I' r0 3 = I r1 3 ∧ I' r0 8 = I r1 8 ∧ I' r0 9 = I r1 9 ∧ I' r0 10 = I r1 10) ∧ (∀ p, p < 16 → I' (r0 + 1) p = I (r1 + 1) p ∧ I' (r0 + 2) p = I (r1 + 2) p) ∧ ∀ t, t < 41 → I' (r0 + 3) t = I (r1 + 3) t ∧ I' (r0 + 4) t = I (r1 + 4) t ∧ I' (r0 + 5) t = I (r1 + 5) t ∧ I' (r0 + 6) t = I (r1 + 6) t
def cpT (r0 r1 : Nat) (I' I : MI) : Prop := I' r0 0 = I r1 0 ∧ ∀ k, k < 30 → I' (r0 + 1) k = I (r1 + 1) k ∧ I' (r0 + 2) k = I (r1 + 2) k ∧ I' (r0 + 3) k = I (r1 + 3) k ∧ I' (r0 + 4) k = I (r1 + 4) k
theorem cpV_vil {r0 r1 : Nat} {I' I : MI} {v : Vil} (hm : v.m ≤ 41) (h : cpV r0 r1 I' I) (k : vilC r1 v I) : vilC r0 v I' := by
  obtain ⟨⟨h1, h2, h3, h4, h5⟩, h6, h7⟩ := h
  obtain ⟨⟨k1, k2, k3, k4, k5⟩, k6, k7⟩ := k
  refine ⟨⟨h1.trans k1, h2.trans k2, h3.trans k3, h4.trans k4, h5.trans k5⟩, fun p hp => ⟨(h6 p hp).1.trans (k6 p hp).1, (h6 p hp).2.trans (k6 p hp).2⟩, fun t ht => ?_⟩
  obtain ⟨q1, q2, q3, q4⟩ := h7 t (by omega)
  obtain ⟨p1, p2, p3, p4⟩ := k7 t ht
  exact ⟨q1.trans p1, q2.trans p2, q3.trans p3, q4.trans p4⟩
theorem cpT_tel {r0 r1 : Nat} {I' I : MI} {t : Tel} (hm : t.n ≤ 30) (h : cpT r0 r1 I' I) (k : telC r1 t I) : telC r0 t I' := by
  obtain ⟨h1, h7⟩ := h
  obtain ⟨k1, k7⟩ := k
  refine ⟨h1.trans k1, fun t ht => ?_⟩
  obtain ⟨q1, q2, q3, q4⟩ := h7 t (by omega)
  obtain ⟨p1, p2, p3, p4⟩ := k7 t ht
  exact ⟨q1.trans p1, q2.trans p2, q3.trans p3, q4.trans p4⟩
theorem c_Village_copy {r0 r1 : Nat} (hd : r0 + 7 ≤ r1 ∨ r1 + 7 ≤ r0) {b : Bool} {I : MI} {L : ML} {K : Bool → MI → ML → Prop} (hK : ∀ I', (∀ a, a < r0 ∨ r0 + 7 ≤ a → I' a = I a) → cpV r0 r1 I' I → K b I' L) : CV m_Village_copy [vr 19 r0, vr 19 r1] b I L K := by
  refine v_Village_copy_0 ⟨by decide, v_Village_copy_23 ⟨by decide, v_Village_copy_38 ⟨by decide, v_Village_copy_61 ⟨by decide, v_Village_copy_76 ⟨by decide, v_Village_copy_91 ⟨by decide, v_Village_copy_106 ?_⟩⟩⟩⟩⟩⟩
  simp only [tn0, tn16, tn41]
  refine hK _ (fun a ha => ?_) ⟨⟨?_, ?_, ?_, ?_, ?_⟩, fun p hp => ⟨?_, ?_⟩, fun t ht => ⟨?_, ?_, ?_, ?_⟩⟩
  · simp (disch := first | omega | assumption) only [sI_at, sI_c, sI_j, aI_at, aI_c, sL_at, sL_c, sL_j]
  · simp (disch := first | omega | assumption) only [sI_at, sI_c, sI_j, aI_at, aI_c, sL_at, sL_c, sL_j]
  · simp (disch := first | omega | assumption) only [sI_at, sI_c, sI_j, aI_at, aI_c, sL_at, sL_c, sL_j]
  · simp (disch := first | omega | assumption) only [sI_at, sI_c, sI_j, aI_at, aI_c, sL_at, sL_c, sL_j]
  · simp (disch := first | omega | assumption) only [sI_at, sI_c, sI_j, aI_at, aI_c, sL_at, sL_c, sL_j]
  · simp (disch := first | omega | assumption) only [sI_at, sI_c, sI_j, aI_at, aI_c, sL_at, sL_c, sL_j]
  · simp (disch := first | omega | assumption) only [sI_at, sI_c, sI_j, aI_at, aI_c, sL_at, sL_c, sL_j, cpy0]
  · simp (disch := first | omega | assumption) only [sI_at, sI_c, sI_j, aI_at, aI_c, sL_at, sL_c, sL_j, cpy0]
  · simp (disch := first | omega | assumption) only [sI_at, sI_c, sI_j, aI_at, aI_c, sL_at, sL_c, sL_j, cpy0]
  · simp (disch := first | omega | assumption) only [sI_at, sI_c, sI_j, aI_at, aI_c, sL_at, sL_c, sL_j, cpy0]
  · simp (disch := first | omega | assumption) only [sI_at, sI_c, sI_j, aI_at, aI_c, sL_at, sL_c, sL_j, cpy0]
  · simp (disch := first | omega | assumption) only [sI_at, sI_c, sI_j, aI_at, aI_c, sL_at, sL_c, sL_j, cpy0]
theorem c_Telling_copy {r0 r1 : Nat} (hd : r0 + 5 ≤ r1 ∨ r1 + 5 ≤ r0) {b : Bool} {I : MI} {L : ML} {K : Bool → MI → ML → Prop} (hK : ∀ I', (∀ a, a < r0 ∨ r0 + 5 ≤ a → I' a = I a) → cpT r0 r1 I' I → K b I' L) : CV m_Telling_copy [vr 18 r0, vr 18 r1] b I L K := by
  refine v_Telling_copy_0 ⟨by decide, v_Telling_copy_23 ⟨by decide, v_Telling_copy_38 ⟨by decide, v_Telling_copy_53 ⟨by decide, v_Telling_copy_68 ?_⟩⟩⟩⟩
  simp only [tn0, tn30]
  refine hK _ (fun a ha => ?_) ⟨?_, fun t ht => ⟨?_, ?_, ?_, ?_⟩⟩
  · simp (disch := first | omega | assumption) only [sI_at, sI_c, sI_j, aI_at, aI_c, sL_at, sL_c, sL_j]
  · simp (disch := first | omega | assumption) only [sI_at, sI_c, sI_j, aI_at, aI_c, sL_at, sL_c, sL_j]
  · simp (disch := first | omega | assumption) only [sI_at, sI_c, sI_j, aI_at, aI_c, sL_at, sL_c, sL_j, cpy0]
  · simp (disch := first | omega | assumption) only [sI_at, sI_c, sI_j, aI_at, aI_c, sL_at, sL_c, sL_j, cpy0]
  · simp (disch := first | omega | assumption) only [sI_at, sI_c, sI_j, aI_at, aI_c, sL_at, sL_c, sL_j, cpy0]
  · simp (disch := first | omega | assumption) only [sI_at, sI_c, sI_j, aI_at, aI_c, sL_at, sL_c, sL_j, cpy0]
/-- a book copied: cells of another one are as they were -/
theorem c_Book_copy {r0 r1 : Nat} {B : Bk} (hd : r0 + 34 ≤ r1 ∨ r1 + 34 ≤ r0) {b : Bool} {I : MI} {L : ML} {K : Bool → MI → ML → Prop} (ok : B.ok) (hB : bkC r1 B I) (hK : ∀ I', (∀ a, a < r0 ∨ r0 + 34 ≤ a → I' a = I a) → bkC r0 B I' → K b I' L) : CV m_Book_copy [vr 10 r0, vr 10 r1] b I L K := by
  obtain ⟨⟨o1, o2, o3, o4⟩, o5, o6, o7⟩ := id ok
  refine v_Book_copy_0 ?_
  refine v_Book_copy_2 ?_
  simp (disch := first | omega | assumption) only [n_lit, n_gLt, n_gLe, n_gEq, n_gEq2, n_gLe2, n_gLt2, n_m1, n_add, n_mul, n_lt, n_le, n_eq, n_cl, n_in, n_rem, n_mlt, n_mle, n_ltm, n_lem, n_eqm, n_meq, n_bit, n_shl, n_b0, n_b1, n_sub, n_inT, nT, nF, lT, lF, eT, eF, not_false_eq_true, not_true_eq_false, sI_at, sI_c, sI_j, aI_at, aI_c, sL_at, sL_c, sL_j, true_and, and_true, not_true_eq_false, not_false_eq_true, forall_const, true_implies, false_implies, implies_true, if_true, if_false, ite_true, ite_false, Bool.not_eq_true, Bool.not_eq_false, Bool.true_eq_false, Bool.false_eq_true, false_and, and_false, or_true, true_or, false_or, or_false]
  refine c_Village_copy (by omega) (fun I1 f1 p1 => ?_)
  refine v_Book_copy_2 ?_
  simp (disch := first | omega | assumption) only [n_lit, n_gLt, n_gLe, n_gEq, n_gEq2, n_gLe2, n_gLt2, n_m1, n_add, n_mul, n_lt, n_le, n_eq, n_cl, n_in, n_rem, n_mlt, n_mle, n_ltm, n_lem, n_eqm, n_meq, n_bit, n_shl, n_b0, n_b1, n_sub, n_inT, nT, nF, lT, lF, eT, eF, not_false_eq_true, not_true_eq_false, sI_at, sI_c, sI_j, aI_at, aI_c, sL_at, sL_c, sL_j, true_and, and_true, not_true_eq_false, not_false_eq_true, forall_const, true_implies, false_implies, implies_true, if_true, if_false, ite_true, ite_false, Bool.not_eq_true, Bool.not_eq_false, Bool.true_eq_false, Bool.false_eq_true, false_and, and_false, or_true, true_or, false_or, or_false]
  refine c_Village_copy (by omega) (fun I2 f2 p2 => ?_)
  refine v_Book_copy_2 ?_
  simp (disch := first | omega | assumption) only [n_lit, n_gLt, n_gLe, n_gEq, n_gEq2, n_gLe2, n_gLt2, n_m1, n_add, n_mul, n_lt, n_le, n_eq, n_cl, n_in, n_rem, n_mlt, n_mle, n_ltm, n_lem, n_eqm, n_meq, n_bit, n_shl, n_b0, n_b1, n_sub, n_inT, nT, nF, lT, lF, eT, eF, not_false_eq_true, not_true_eq_false, sI_at, sI_c, sI_j, aI_at, aI_c, sL_at, sL_c, sL_j, true_and, and_true, not_true_eq_false, not_false_eq_true, forall_const, true_implies, false_implies, implies_true, if_true, if_false, ite_true, ite_false, Bool.not_eq_true, Bool.not_eq_false, Bool.true_eq_false, Bool.false_eq_true, false_and, and_false, or_true, true_or, false_or, or_false]
  refine v_Book_copy_30 ?_
  simp (disch := first | omega | assumption) only [n_lit, n_gLt, n_gLe, n_gEq, n_gEq2, n_gLe2, n_gLt2, n_m1, n_add, n_mul, n_lt, n_le, n_eq, n_cl, n_in, n_rem, n_mlt, n_mle, n_ltm, n_lem, n_eqm, n_meq, n_bit, n_shl, n_b0, n_b1, n_sub, n_inT, nT, nF, lT, lF, eT, eF, not_false_eq_true, not_true_eq_false, sI_at, sI_c, sI_j, aI_at, aI_c, sL_at, sL_c, sL_j, true_and, and_true, not_true_eq_false, not_false_eq_true, forall_const, true_implies, false_implies, implies_true, if_true, if_false, ite_true, ite_false, Bool.not_eq_true, Bool.not_eq_false, Bool.true_eq_false, Bool.false_eq_true, false_and, and_false, or_true, true_or, false_or, or_false]
  refine c_Telling_copy (by omega) (fun I3 f3 p3 => ?_)
  refine v_Book_copy_30 ?_
  simp (disch := first | omega | assumption) only [n_lit, n_gLt, n_gLe, n_gEq, n_gEq2, n_gLe2, n_gLt2, n_m1, n_add, n_mul, n_lt, n_le, n_eq, n_cl, n_in, n_rem, n_mlt, n_mle, n_ltm, n_lem, n_eqm, n_meq, n_bit, n_shl, n_b0, n_b1, n_sub, n_inT, nT, nF, lT, lF, eT, eF, not_false_eq_true, not_true_eq_false, sI_at, sI_c, sI_j, aI_at, aI_c, sL_at, sL_c, sL_j, true_and, and_true, not_true_eq_false, not_false_eq_true, forall_const, true_implies, false_implies, implies_true, if_true, if_false, ite_true, ite_false, Bool.not_eq_true, Bool.not_eq_false, Bool.true_eq_false, Bool.false_eq_true, false_and, and_false, or_true, true_or, false_or, or_false]
  refine c_Telling_copy (by omega) (fun I4 f4 p4 => ?_)
  refine v_Book_copy_30 ?_
  simp (disch := first | omega | assumption) only [n_lit, n_gLt, n_gLe, n_gEq, n_gEq2, n_gLe2, n_gLt2, n_m1, n_add, n_mul, n_lt, n_le, n_eq, n_cl, n_in, n_rem, n_mlt, n_mle, n_ltm, n_lem, n_eqm, n_meq, n_bit, n_shl, n_b0, n_b1, n_sub, n_inT, nT, nF, lT, lF, eT, eF, not_false_eq_true, not_true_eq_false, sI_at, sI_c, sI_j, aI_at, aI_c, sL_at, sL_c, sL_j, true_and, and_true, not_true_eq_false, not_false_eq_true, forall_const, true_implies, false_implies, implies_true, if_true, if_false, ite_true, ite_false, Bool.not_eq_true, Bool.not_eq_false, Bool.true_eq_false, Bool.false_eq_true, false_and, and_false, or_true, true_or, false_or, or_false]
  refine c_Telling_copy (by omega) (fun I5 f5 p5 => ?_)
  refine v_Book_copy_30 ?_
  simp (disch := first | omega | assumption) only [n_lit, n_gLt, n_gLe, n_gEq, n_gEq2, n_gLe2, n_gLt2, n_m1, n_add, n_mul, n_lt, n_le, n_eq, n_cl, n_in, n_rem, n_mlt, n_mle, n_ltm, n_lem, n_eqm, n_meq, n_bit, n_shl, n_b0, n_b1, n_sub, n_inT, nT, nF, lT, lF, eT, eF, not_false_eq_true, not_true_eq_false, sI_at, sI_c, sI_j, aI_at, aI_c, sL_at, sL_c, sL_j, true_and, and_true, not_true_eq_false, not_false_eq_true, forall_const, true_implies, false_implies, implies_true, if_true, if_false, ite_true, ite_false, Bool.not_eq_true, Bool.not_eq_false, Bool.true_eq_false, Bool.false_eq_true, false_and, and_false, or_true, true_or, false_or, or_false]
  refine v_Tape_copy_0 ⟨by decide, ?_⟩
  simp only [tn0, tn600]
  have hr1 : ∀ a, r1 ≤ a → a < r1 + 34 → I5 a = I a := fun a h1 h2 => by rw [f5 a (by omega), f4 a (by omega), f3 a (by omega), f2 a (by omega), f1 a (by omega)]
  obtain ⟨J, hJ⟩ : ∃ J, J = sI (sI (sI (sI (sI (aI I5 (r0 + 3 + 1) (va_cpy (I5 (r1 + 3 + 1)) (I5 (r0 + 3 + 1)) 0 0 600)) (r0 + 3) 1 ((aI I5 (r0 + 3 + 1) (va_cpy (I5 (r1 + 3 + 1)) (I5 (r0 + 3 + 1)) 0 0 600)) (r1 + 3) 1)) r0 3 (I r1 3)) r0 4 (I r1 4)) r0 5 (I r1 5)) r0 6 (I r1 6) := ⟨_, rfl⟩
  simp (disch := first | omega | assumption) only [sI_at, sI_c, sI_j, aI_at, aI_c, sL_at, sL_c, sL_j, hr1 r1 (by omega) (by omega)]
  have e : ∀ a, a ≠ r0 → a ≠ r0 + 3 → a ≠ r0 + 4 → J a = I5 a := fun a h1 h2 h3 => by
    rw [hJ]
    simp (disch := first | omega | assumption) only [sI_at, sI_c, sI_j, aI_at, aI_c, sL_at, sL_c, sL_j]
  have hJe : ∀ X, X = J → K b J L → K b X L := fun X hX h => hX ▸ h
  refine hJe _ ?_ (hK J (fun a ha => ?_) ⟨⟨?_, ?_, ?_, ?_, ?_⟩, fun j hj => ?_, fun j hj => ?_, fun j hj => ?_⟩)
  · rw [hJ]
    simp (disch := first | omega | assumption) only [sI_at, sI_c, sI_j, aI_at, aI_c, sL_at, sL_c, sL_j]
  · rw [e a (by omega) (by omega) (by omega), f5 a (by omega), f4 a (by omega), f3 a (by omega), f2 a (by omega), f1 a (by omega)]
  · rw [hJ]
    simp (disch := first | omega | assumption) only [sI_at, sI_c, sI_j, aI_at, aI_c, sL_at, sL_c, sL_j]
    exact hB.1.1
  · rw [hJ]
    simp (disch := first | omega | assumption) only [sI_at, sI_c, sI_j, aI_at, aI_c, sL_at, sL_c, sL_j]
    exact hB.1.2.1
  · rw [hJ]
    simp (disch := first | omega | assumption) only [sI_at, sI_c, sI_j, aI_at, aI_c, sL_at, sL_c, sL_j]
    exact hB.1.2.2.1
  · rw [hJ]
    simp (disch := first | omega | assumption) only [sI_at, sI_c, sI_j, aI_at, aI_c, sL_at, sL_c, sL_j]
    exact hB.1.2.2.2.1
  · rw [hJ]
    simp (disch := first | omega | assumption) only [sI_at, sI_c, sI_j, aI_at, aI_c, sL_at, sL_c, sL_j, hr1 (r1 + 3) (by omega) (by omega)]
    exact hB.1.2.2.2.2
  · have hj6 : j < 600 := by omega
    rw [hJ]
    simp (disch := first | omega | assumption) only [sI_at, sI_c, sI_j, aI_at, aI_c, sL_at, sL_c, sL_j, cpy0, hr1 (r1 + 3 + 1) (by omega) (by omega)]
    exact hB.2.1 j hj
  · have hk := hB.2.2.1 j hj
    have hm := (o6 j hj).2.1
    rcases (by omega : j = 0 ∨ j = 1) with rfl | rfl
    · refine vilC_fr (I := I1) (fun a h1 h2 => ?_) (cpV_vil (r0 := r0 + 5 + 7 * 0) (r1 := r1 + 5 + 7 * 0) (by omega) p1 hk)
      rw [e a (by omega) (by omega) (by omega), f5 a (by omega), f4 a (by omega), f3 a (by omega), f2 a (by omega)]
    · refine vilC_fr (I := I2) (fun a h1 h2 => ?_) (cpV_vil (r0 := r0 + 5 + 7 * 1) (r1 := r1 + 5 + 7 * 1) (by omega) p2 (vilC_fr (fun a h1 h2 => f1 a (by omega)) hk))
      rw [e a (by omega) (by omega) (by omega), f5 a (by omega), f4 a (by omega), f3 a (by omega)]
  · have hk := hB.2.2.2 j hj
    have hm := (o7 j hj).1
    rcases (by omega : j = 0 ∨ j = 1 ∨ j = 2) with rfl | rfl | rfl
    · refine telC_fr (I := I3) (fun a h1 h2 => ?_) (cpT_tel (r0 := r0 + 19 + 5 * 0) (r1 := r1 + 19 + 5 * 0) (by omega) p3 (telC_fr (fun a h1 h2 => by rw [f2 a (by omega), f1 a (by omega)]) hk))
      rw [e a (by omega) (by omega) (by omega), f5 a (by omega), f4 a (by omega)]
    · refine telC_fr (I := I4) (fun a h1 h2 => ?_) (cpT_tel (r0 := r0 + 19 + 5 * 1) (r1 := r1 + 19 + 5 * 1) (by omega) p4 (telC_fr (fun a h1 h2 => by rw [f3 a (by omega), f2 a (by omega), f1 a (by omega)]) hk))
      rw [e a (by omega) (by omega) (by omega), f5 a (by omega)]
    · refine telC_fr (I := I5) (fun a h1 h2 => ?_) (cpT_tel (r0 := r0 + 19 + 5 * 2) (r1 := r1 + 19 + 5 * 2) (by omega) p5 (telC_fr (fun a h1 h2 => by rw [f4 a (by omega), f3 a (by omega), f2 a (by omega), f1 a (by omega)]) hk))
      rw [e a (by omega) (by omega) (by omega)]
