/-! The reference's plain what-if, with its cells; another village: a doubt -/
def plP (I : MI) : Prop := I 186 17 = nM ∧ I 186 18 = nM ∧ I 186 19 = nM ∧ I 186 23 = nM ∧ I 186 14 = nI 0 ∧ I 186 15 = nI 1
theorem cm_areBothP {B : Bk} {a1 a2 : Int32} {b : Bool} {I : MI} {L : ML} {K : Int32 → Bool → MI → ML → Prop} (ok : B.ok) (hm : bkM 0 B I) (hy : tkB B a1 a2 = true → ∀ I' L', (∀ a, a ≠ 186 → I' a = I a) → (∃ k, k < B.nv ∧ a1 = nI k ∧ WM (B.vl k) (B.tlOf a2) wi0 (610 + 200 * k) (mkW (B.vl k) (B.vl k).m (B.tlOf a2) wi0) I' L') → plP I' → K (nI 1) b I' L') (hn : tkB B a1 a2 = false → ∀ I', (∀ a, a ≠ 186 → I' a = I a) → K (nI 0) b I' L) : CI m_M_areBoth [vr 22 186, vi a1, vi a2] b I L K := by
  have h1 := ok.1.1
  have h2 := ok.1.2.1
  have m1 := hm.1.1
  have m2 := hm.1.2.1
  simp only [Nat.zero_add] at m1 m2
  have hM : ∀ a2, (a2 = nM ∨ ∃ j, j < B.nt ∧ a2 = nI j) → (B.tlOf a2).ok := fun a2 h => tlOf_ok ok h
  have no : ¬ ((∃ k, k < B.nv ∧ a1 = nI k) ∧ (a2 = nM ∨ ∃ j, j < B.nt ∧ a2 = nI j)) → tkB B a1 a2 = false := fun q => by
    cases h : tkB B a1 a2 with
    | false => rfl
    | true => exact absurd ((tkB_iff ok).mp h) q
  refine v_M_areBoth_0 ?_
  by_cases c1 : ∃ k, k < B.nv ∧ a1 = nI k
  · obtain ⟨k, hk, rfl⟩ := c1
    refine c_isOf_y (s := 0) (by decide) m1 (by omega) hk ?_
    by_cases c2 : a2 = nM
    · subst c2
      have z : (nM = nM) = True := eq_true rfl
      simp (disch := first | omega | assumption) only [n_lit, n_gLt, n_gLe, n_gEq, n_gEq2, n_gLe2, n_gLt2, n_m1, n_add, n_mul, n_lt, n_le, n_eq, n_cl, n_in, n_rem, n_mlt, n_mle, n_ltm, n_lem, n_eqm, n_meq, n_bit, n_shl, n_b0, n_b1, n_sub, n_inT, nT, nF, lT, lF, eT, eF, not_false_eq_true, not_true_eq_false, sI_at, sI_c, sI_j, aI_at, aI_c, sL_at, sL_c, sL_j, true_and, and_true, not_true_eq_false, not_false_eq_true, forall_const, true_implies, false_implies, implies_true, if_true, if_false, ite_true, ite_false, Bool.not_eq_true, Bool.not_eq_false, Bool.true_eq_false, Bool.false_eq_true, false_and, and_false, or_true, true_or, false_or, or_false, z]
      refine v_M_placeOf_0 ?_
      simp (disch := first | omega | assumption) only [n_lit, n_gLt, n_gLe, n_gEq, n_gEq2, n_gLe2, n_gLt2, n_m1, n_add, n_mul, n_lt, n_le, n_eq, n_cl, n_in, n_rem, n_mlt, n_mle, n_ltm, n_lem, n_eqm, n_meq, n_bit, n_shl, n_b0, n_b1, n_sub, n_inT, nT, nF, lT, lF, eT, eF, not_false_eq_true, not_true_eq_false, sI_at, sI_c, sI_j, aI_at, aI_c, sL_at, sL_c, sL_j, true_and, and_true, not_true_eq_false, not_false_eq_true, forall_const, true_implies, false_implies, implies_true, if_true, if_false, ite_true, ite_false, Bool.not_eq_true, Bool.not_eq_false, Bool.true_eq_false, Bool.false_eq_true, false_and, and_false, or_true, true_or, false_or, or_false, z]
      refine v_M_plain_0 ?_
      have g := hy ((tkB_iff ok).mpr ⟨⟨k, hk, rfl⟩, Or.inl rfl⟩)
      simp (disch := first | omega | assumption) only [n_lit, n_gLt, n_gLe, n_gEq, n_gEq2, n_gLe2, n_gLt2, n_m1, n_add, n_mul, n_lt, n_le, n_eq, n_cl, n_in, n_rem, n_mlt, n_mle, n_ltm, n_lem, n_eqm, n_meq, n_bit, n_shl, n_b0, n_b1, n_sub, n_inT, nT, nF, lT, lF, eT, eF, not_false_eq_true, not_true_eq_false, sI_at, sI_c, sI_j, aI_at, aI_c, sL_at, sL_c, sL_j, true_and, and_true, not_true_eq_false, not_false_eq_true, forall_const, true_implies, false_implies, implies_true, if_true, if_false, ite_true, ite_false, Bool.not_eq_true, Bool.not_eq_false, Bool.true_eq_false, Bool.false_eq_true, false_and, and_false, or_true, true_or, false_or, or_false]
      refine g _ _ (fun a ha => ?_) ⟨k, hk, rfl, plain_made ok hm hk rfl (hM _ (Or.inl rfl)) ?_ ?_ (Or.inl ⟨?_, ?_⟩) ?_ ?_ ?_ ?_ ?_ ?_ ?_⟩ ?_
      · simp (disch := first | omega | assumption) only [sI_at, sI_c, sI_j, aI_at, aI_c, sL_at, sL_c, sL_j]
      · simp (disch := first | omega | assumption) only [sI_at, sI_c, sI_j, aI_at, aI_c, sL_at, sL_c, sL_j]
      · simp (disch := first | omega | assumption) only [sI_at, sI_c, sI_j, aI_at, aI_c, sL_at, sL_c, sL_j]
      · unfold Bk.tlOf
        rw [if_pos rfl]
        rfl
      · simp (disch := first | omega | assumption) only [sI_at, sI_c, sI_j, aI_at, aI_c, sL_at, sL_c, sL_j]
      · simp (disch := first | omega | assumption) only [sI_at, sI_c, sI_j, aI_at, aI_c, sL_at, sL_c, sL_j]
      · simp (disch := first | omega | assumption) only [sI_at, sI_c, sI_j, aI_at, aI_c, sL_at, sL_c, sL_j]
      · simp (disch := first | omega | assumption) only [sI_at, sI_c, sI_j, aI_at, aI_c, sL_at, sL_c, sL_j]
      · simp (disch := first | omega | assumption) only [sI_at, sI_c, sI_j, aI_at, aI_c, sL_at, sL_c, sL_j]
      · simp (disch := first | omega | assumption) only [sI_at, sI_c, sI_j, aI_at, aI_c, sL_at, sL_c, sL_j]
      · simp (disch := first | omega | assumption) only [sI_at, sI_c, sI_j, aI_at, aI_c, sL_at, sL_c, sL_j]
      · simp (disch := first | omega | assumption) only [sI_at, sI_c, sI_j, aI_at, aI_c, sL_at, sL_c, sL_j]
      · refine ⟨?_, ?_, ?_, ?_, ?_, ?_⟩ <;> simp (disch := first | omega | assumption) only [sI_at, sI_c, sI_j, aI_at, aI_c, sL_at, sL_c, sL_j] <;> rfl
    · by_cases c3 : ∃ j, j < B.nt ∧ a2 = nI j
      · obtain ⟨j, hj, rfl⟩ := c3
        simp (disch := first | omega | assumption) only [n_lit, n_gLt, n_gLe, n_gEq, n_gEq2, n_gLe2, n_gLt2, n_m1, n_add, n_mul, n_lt, n_le, n_eq, n_cl, n_in, n_rem, n_mlt, n_mle, n_ltm, n_lem, n_eqm, n_meq, n_bit, n_shl, n_b0, n_b1, n_sub, n_inT, nT, nF, lT, lF, eT, eF, not_false_eq_true, not_true_eq_false, sI_at, sI_c, sI_j, aI_at, aI_c, sL_at, sL_c, sL_j, true_and, and_true, not_true_eq_false, not_false_eq_true, forall_const, true_implies, false_implies, implies_true, if_true, if_false, ite_true, ite_false, Bool.not_eq_true, Bool.not_eq_false, Bool.true_eq_false, Bool.false_eq_true, false_and, and_false, or_true, true_or, false_or, or_false]
        refine c_isOf_y (s := 1) (by decide) m2 (by omega) hj ?_
        simp (disch := first | omega | assumption) only [n_lit, n_gLt, n_gLe, n_gEq, n_gEq2, n_gLe2, n_gLt2, n_m1, n_add, n_mul, n_lt, n_le, n_eq, n_cl, n_in, n_rem, n_mlt, n_mle, n_ltm, n_lem, n_eqm, n_meq, n_bit, n_shl, n_b0, n_b1, n_sub, n_inT, nT, nF, lT, lF, eT, eF, not_false_eq_true, not_true_eq_false, sI_at, sI_c, sI_j, aI_at, aI_c, sL_at, sL_c, sL_j, true_and, and_true, not_true_eq_false, not_false_eq_true, forall_const, true_implies, false_implies, implies_true, if_true, if_false, ite_true, ite_false, Bool.not_eq_true, Bool.not_eq_false, Bool.true_eq_false, Bool.false_eq_true, false_and, and_false, or_true, true_or, false_or, or_false]
        refine v_M_placeOf_0 ?_
        simp (disch := first | omega | assumption) only [n_lit, n_gLt, n_gLe, n_gEq, n_gEq2, n_gLe2, n_gLt2, n_m1, n_add, n_mul, n_lt, n_le, n_eq, n_cl, n_in, n_rem, n_mlt, n_mle, n_ltm, n_lem, n_eqm, n_meq, n_bit, n_shl, n_b0, n_b1, n_sub, n_inT, nT, nF, lT, lF, eT, eF, not_false_eq_true, not_true_eq_false, sI_at, sI_c, sI_j, aI_at, aI_c, sL_at, sL_c, sL_j, true_and, and_true, not_true_eq_false, not_false_eq_true, forall_const, true_implies, false_implies, implies_true, if_true, if_false, ite_true, ite_false, Bool.not_eq_true, Bool.not_eq_false, Bool.true_eq_false, Bool.false_eq_true, false_and, and_false, or_true, true_or, false_or, or_false]
        refine v_M_placeOf_0 ?_
        simp (disch := first | omega | assumption) only [n_lit, n_gLt, n_gLe, n_gEq, n_gEq2, n_gLe2, n_gLt2, n_m1, n_add, n_mul, n_lt, n_le, n_eq, n_cl, n_in, n_rem, n_mlt, n_mle, n_ltm, n_lem, n_eqm, n_meq, n_bit, n_shl, n_b0, n_b1, n_sub, n_inT, nT, nF, lT, lF, eT, eF, not_false_eq_true, not_true_eq_false, sI_at, sI_c, sI_j, aI_at, aI_c, sL_at, sL_c, sL_j, true_and, and_true, not_true_eq_false, not_false_eq_true, forall_const, true_implies, false_implies, implies_true, if_true, if_false, ite_true, ite_false, Bool.not_eq_true, Bool.not_eq_false, Bool.true_eq_false, Bool.false_eq_true, false_and, and_false, or_true, true_or, false_or, or_false]
        refine v_M_plain_0 ?_
        have g := hy ((tkB_iff ok).mpr ⟨⟨k, hk, rfl⟩, Or.inr ⟨j, hj, rfl⟩⟩)
        have e : B.tlOf (nI j) = B.tl j := by
          unfold Bk.tlOf
          rw [if_neg c2, n_cl (by omega)]
        have hT := hm.2.2.2 j hj
        rw [Nat.zero_add] at hT
        rw [e] at g
        simp (disch := first | omega | assumption) only [n_lit, n_gLt, n_gLe, n_gEq, n_gEq2, n_gLe2, n_gLt2, n_m1, n_add, n_mul, n_lt, n_le, n_eq, n_cl, n_in, n_rem, n_mlt, n_mle, n_ltm, n_lem, n_eqm, n_meq, n_bit, n_shl, n_b0, n_b1, n_sub, n_inT, nT, nF, lT, lF, eT, eF, not_false_eq_true, not_true_eq_false, sI_at, sI_c, sI_j, aI_at, aI_c, sL_at, sL_c, sL_j, true_and, and_true, not_true_eq_false, not_false_eq_true, forall_const, true_implies, false_implies, implies_true, if_true, if_false, ite_true, ite_false, Bool.not_eq_true, Bool.not_eq_false, Bool.true_eq_false, Bool.false_eq_true, false_and, and_false, or_true, true_or, false_or, or_false]
        refine g _ _ (fun a ha => ?_) ⟨k, hk, rfl, plain_made ok hm hk rfl (ok.2.2.2 j hj) ?_ ?_ (Or.inr ⟨1010 + 122 * j, by omega, by omega, ?_, telM_fr ?_ hT⟩) ?_ ?_ ?_ ?_ ?_ ?_ ?_⟩ ?_
        · simp (disch := first | omega | assumption) only [sI_at, sI_c, sI_j, aI_at, aI_c, sL_at, sL_c, sL_j]
        · simp (disch := first | omega | assumption) only [sI_at, sI_c, sI_j, aI_at, aI_c, sL_at, sL_c, sL_j]
        · simp (disch := first | omega | assumption) only [sI_at, sI_c, sI_j, aI_at, aI_c, sL_at, sL_c, sL_j]
        · simp (disch := first | omega | assumption) only [sI_at, sI_c, sI_j, aI_at, aI_c, sL_at, sL_c, sL_j]
        · simp (disch := first | omega | assumption) only [sI_at, sI_c, sI_j, aI_at, aI_c, sL_at, sL_c, sL_j]
        · simp (disch := first | omega | assumption) only [sI_at, sI_c, sI_j, aI_at, aI_c, sL_at, sL_c, sL_j]
        · simp (disch := first | omega | assumption) only [sI_at, sI_c, sI_j, aI_at, aI_c, sL_at, sL_c, sL_j]
        · simp (disch := first | omega | assumption) only [sI_at, sI_c, sI_j, aI_at, aI_c, sL_at, sL_c, sL_j]
        · simp (disch := first | omega | assumption) only [sI_at, sI_c, sI_j, aI_at, aI_c, sL_at, sL_c, sL_j]
        · simp (disch := first | omega | assumption) only [sI_at, sI_c, sI_j, aI_at, aI_c, sL_at, sL_c, sL_j]
        · simp (disch := first | omega | assumption) only [sI_at, sI_c, sI_j, aI_at, aI_c, sL_at, sL_c, sL_j]
        · simp (disch := first | omega | assumption) only [sI_at, sI_c, sI_j, aI_at, aI_c, sL_at, sL_c, sL_j]
        · refine ⟨?_, ?_, ?_, ?_, ?_, ?_⟩ <;> simp (disch := first | omega | assumption) only [sI_at, sI_c, sI_j, aI_at, aI_c, sL_at, sL_c, sL_j] <;> rfl
      · have g := hn (no (fun q => q.2.elim c2 c3)) I (fun _ _ => rfl)
        simp (disch := first | omega | assumption) only [n_lit, n_gLt, n_gLe, n_gEq, n_gEq2, n_gLe2, n_gLt2, n_m1, n_add, n_mul, n_lt, n_le, n_eq, n_cl, n_in, n_rem, n_mlt, n_mle, n_ltm, n_lem, n_eqm, n_meq, n_bit, n_shl, n_b0, n_b1, n_sub, n_inT, nT, nF, lT, lF, eT, eF, not_false_eq_true, not_true_eq_false, sI_at, sI_c, sI_j, aI_at, aI_c, sL_at, sL_c, sL_j, true_and, and_true, not_true_eq_false, not_false_eq_true, forall_const, true_implies, false_implies, implies_true, if_true, if_false, ite_true, ite_false, Bool.not_eq_true, Bool.not_eq_false, Bool.true_eq_false, Bool.false_eq_true, false_and, and_false, or_true, true_or, false_or, or_false, c2]
        refine c_isOf_n (s := 1) (by decide) m2 (by omega) (tk_out (by omega) c3) ?_
        simp (disch := first | omega | assumption) only [n_lit, n_gLt, n_gLe, n_gEq, n_gEq2, n_gLe2, n_gLt2, n_m1, n_add, n_mul, n_lt, n_le, n_eq, n_cl, n_in, n_rem, n_mlt, n_mle, n_ltm, n_lem, n_eqm, n_meq, n_bit, n_shl, n_b0, n_b1, n_sub, n_inT, nT, nF, lT, lF, eT, eF, not_false_eq_true, not_true_eq_false, sI_at, sI_c, sI_j, aI_at, aI_c, sL_at, sL_c, sL_j, true_and, and_true, not_true_eq_false, not_false_eq_true, forall_const, true_implies, false_implies, implies_true, if_true, if_false, ite_true, ite_false, Bool.not_eq_true, Bool.not_eq_false, Bool.true_eq_false, Bool.false_eq_true, false_and, and_false, or_true, true_or, false_or, or_false]
        exact g
  · refine c_isOf_n (s := 0) (by decide) m1 (by omega) (tk_out (by omega) c1) ?_
    have g := hn (no (fun q => c1 q.1)) I (fun _ _ => rfl)
    simp (disch := first | omega | assumption) only [n_lit, n_gLt, n_gLe, n_gEq, n_gEq2, n_gLe2, n_gLt2, n_m1, n_add, n_mul, n_lt, n_le, n_eq, n_cl, n_in, n_rem, n_mlt, n_mle, n_ltm, n_lem, n_eqm, n_meq, n_bit, n_shl, n_b0, n_b1, n_sub, n_inT, nT, nF, lT, lF, eT, eF, not_false_eq_true, not_true_eq_false, sI_at, sI_c, sI_j, aI_at, aI_c, sL_at, sL_c, sL_j, true_and, and_true, not_true_eq_false, not_false_eq_true, forall_const, true_implies, false_implies, implies_true, if_true, if_false, ite_true, ite_false, Bool.not_eq_true, Bool.not_eq_false, Bool.true_eq_false, Bool.false_eq_true, false_and, and_false, or_true, true_or, false_or, or_false]
    exact g
theorem cm_bothP {B : Bk} {a1 a2 : Int32} {b : Bool} {I : MI} {L : ML} {K : Int32 → Bool → MI → ML → Prop} (ok : B.ok) (hm : bkM 0 B I) (hy : tkB B a1 a2 = true → ∀ I' L' o, (∀ a, a ≠ 186 → I' a = I a) → WM (B.vl a1.toNatClampNeg) (B.tlOf a2) wi0 o (B.wd a1 a2) I' L' → plP I' → K (nI 1) b I' L') (hn : tkB B a1 a2 = false → ∀ I', (∀ a, a ≠ 186 → I' a = I a) → K (nI 0) b I' L) : CI m_M_areBoth [vr 22 186, vi a1, vi a2] b I L K :=
  cm_areBothP ok hm (fun h I' L' f ⟨k, hk, e, W⟩ P => by
    have := ok.1.1
    subst e
    have ek : (nI k).toNatClampNeg = k := n_cl (by omega)
    refine hy h I' L' (610 + 200 * k) f ?_ P
    unfold Bk.wd
    rw [ek]
    exact W) hn
