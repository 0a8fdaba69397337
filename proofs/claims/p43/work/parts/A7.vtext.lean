/-! THE LAW'S TEXTS: a village, a telling -/
/-- a village as it lies in a row of the law's -/
def vaP (r : Nat) (V : Vil) (I : MI) : Prop := (I r 0 = nI V.n ∧ I r 1 = nI V.m ∧ I r 2 = nI V.sl ∧ I r 3 = nI V.tw ∧ I r 4 = nI V.td) ∧ (∀ p, p < V.n → I r (10 + p) = nI (V.kd p) ∧ I r (30 + p) = nI (V.db p)) ∧ ∀ t, t < V.m → I r (50 + 4 * t) = nI (V.fr t) ∧ I r (50 + 4 * t + 1) = nI (V.to t) ∧ I r (50 + 4 * t + 2) = nI (V.dy t) ∧ I r (50 + 4 * t + 3) = nI (V.st t)
theorem vaP_fr {r : Nat} {V : Vil} {I I' : MI} (h : I' r = I r) (k : vaP r V I) : vaP r V I' := by
  unfold vaP
  rw [h]
  exact k
/-- between the law's texts: all that is told, an empty tape, an empty q -/
def LwS (B : Bk) (I : MI) : Prop := B.ok ∧ bkC 1 B I ∧ B.ln = 0 ∧ I 186 5 = nI 0 ∧ I 186 6 = nI 0
theorem LwS.q {B : Bk} {I : MI} (h : LwS B I) : LQ [] B I := by
  obtain ⟨h1, h2, h3, h4, h5⟩ := h
  refine ⟨⟨h4, h5⟩, fun j hj => absurd hj (Nat.not_lt_zero _), bk_cong (B := B) (B' := BkT B 0 []) ⟨rfl, rfl, h3.symm, rfl, rfl⟩ (fun j hj => ?_) rfl rfl h2⟩
  rw [h3] at hj
  exact absurd hj (Nat.not_lt_zero _)
theorem LwS.fr {B : Bk} {I I' : MI} (h : LwS B I) (f : ∀ a, a < 139 ∨ a = 186 → I' a = I a) : LwS B I' := by
  obtain ⟨h1, h2, h3, h4, h5⟩ := h
  exact ⟨h1, bkC_fr h1 (fun a g1 g2 => f a (by omega)) h2, h3, by rw [f 186 (by omega)]; exact h4, by rw [f 186 (by omega)]; exact h5⟩
theorem tqF.r {I I' : MI} (h : tqF I I') {r : Nat} (hr : 187 ≤ r) : I' r = I r := h r (by omega) (by omega) (by omega)
theorem lnE1 (l : List Nat) (i p : Nat) : ((l ++ nmW i) ++ (32 :: (dgs p ++ [32]))) ++ [59] = l ++ lnE (i, [p]) := by
  unfold lnE nmE nmE
  simp
theorem lnE2 (l : List Nat) (i p x : Nat) : (((l ++ nmW i) ++ (32 :: (dgs p ++ [32]))) ++ (32 :: (dgs x ++ [32]))) ++ [59] = l ++ lnE (i, [p, x]) := by
  unfold lnE nmE nmE nmE
  simp
theorem txE1 (q : Nat × List Nat) : txE [q] = lnE q := List.append_nil _
section VT
variable {B : Bk} {V : Vil} {r : Nat} {b : Bool} {L : ML} {K : Int32 → Bool → MI → ML → Prop} {x3 x4 : Int32}
theorem c_Lv26 (hok : B.ok) (hV : Vok V) (hr : 187 ≤ r) (I0 : MI) (hP : vaP r V I0) (hK : ∀ I', LQ (txE ([(0, [V.n])] ++ pLs V V.n)) B I' → tqF I0 I' → SW m_L_village 129 [vr 21 0, vr 164 186, vr 900 r, vi x3, vi x4, vi (nI 50), un] [] b I' L (kI K)) : ∀ m i, i + m = V.n → ∀ I, tqF I0 I → LQ (txE ([(0, [V.n])] ++ pLs V i)) B I → SW m_L_village 26 [vr 21 0, vr 164 186, vr 900 r, vi x3, vi x4, vi (nI i), un] [] b I L (kI K) := by
  obtain ⟨⟨n1, n8⟩, -, -, -, -, hk, -⟩ := id hV
  intro m
  induction m with
  | zero =>
    intro i hi I f0 hq
    obtain rfl : i = V.n := by omega
    have e0 : I r 0 = nI V.n := by rw [f0.r hr]; exact hP.1.1
    refine v_L_village_26 ?_
    simp (disch := first | omega | assumption) only [n_lit, n_gLt, n_gLe, n_gEq, n_gEq2, n_gLe2, n_gLt2, n_m1, n_add, n_mul, n_lt, n_le, n_eq, n_cl, n_in, n_rem, n_mlt, n_mle, n_ltm, n_lem, n_eqm, n_meq, n_bit, n_shl, n_b0, n_b1, n_sub, n_inT, nT, nF, lT, lF, eT, eF, not_false_eq_true, not_true_eq_false, sI_at, sI_c, sI_j, aI_at, aI_c, sL_at, sL_c, sL_j, true_and, and_true, not_true_eq_false, not_false_eq_true, forall_const, true_implies, false_implies, implies_true, if_true, if_false, ite_true, ite_false, Bool.not_eq_true, Bool.not_eq_false, Bool.true_eq_false, Bool.false_eq_true, false_and, and_false, or_true, true_or, false_or, or_false, e0]
    exact hK I hq f0
  | succ m ih =>
    intro i hi I f0 hq
    have hin : i < V.n := by omega
    obtain ⟨k5, d1, d99⟩ := hk i hin
    have e0 : I r 0 = nI V.n := by rw [f0.r hr]; exact hP.1.1
    have e1 : I r (10 + i) = nI (V.kd i) := by rw [f0.r hr]; exact (hP.2.1 i hin).1
    have e2 : I r (30 + i) = nI (V.db i) := by rw [f0.r hr]; exact (hP.2.1 i hin).2
    have len : (txE ([(0, [V.n])] ++ pLs V i)).length ≤ 219 := by
      have h1 := (pLs_len V i).1
      have h2 : (lnE (0, [V.n])).length ≤ 11 := lnE_len (0, [V.n])
      rw [txE_app, txE1, List.length_append]
      omega
    have hW := fun i => nmW_len6 i
    have nx : ∀ I', LQ (txE ([(0, [V.n])] ++ pLs V i) ++ txE (kdLn V i)) B I' → tqF I I' → SW m_L_village 26 [vr 21 0, vr 164 186, vr 900 r, vi x3, vi x4, vi (nI (i + 1)), un] [] b I' L (kI K) := fun I' g f => ih (i + 1) (by omega) I' (f0.trans f) (by
      show LQ (txE ([(0, [V.n])] ++ (pLs V i ++ kdLn V i))) B I'
      rw [← List.append_assoc, txE_app]
      exact g)
    -- the doubt's line
    have dbt : ∀ (l1 : List Nat) (I1 : MI), l1.length ≤ 240 → 1 < V.db i → tqF I I1 → LQ l1 B I1 → l1 ++ lnE (7, [i, V.db i]) = txE ([(0, [V.n])] ++ pLs V i) ++ txE (kdLn V i) → CV m_L_word [vr 21 0, vr 164 186, vl 431366693492] b I1 L (fun b_8 I_8 L_8 => CV m_L_more [vr 21 0, vr 164 186, vi (nI i)] b_8 I_8 L_8 (fun b_9 I_9 L_9 => CV m_L_more [vr 21 0, vr 164 186, vi (I_9 r (30 + i))] b_9 I_9 L_9 (fun b_10 I_10 L_10 => CV m_L_put [vr 21 0, vr 164 186, vi (nI 59)] b_10 I_10 L_10 (fun b_11 I_11 L_11 => SW m_L_village 26 [vr 21 0, vr 164 186, vr 900 r, vi x3, vi x4, vi (nI (i + 1)), un] [] b_11 I_11 L_11 (kI K))))) := by
      intro l1 I1 hl1 hd f1 g1 heq
      have w7 : (nmW 7).length = 5 := rfl
      have l2 := dgs_len i
      have l3 := dgs_len (V.db i)
      refine c_Lwd hok g1 (by omega) (fun I2 g2 f2 => ?_)
      rw [w_db] at g2
      refine c_Lmore hok g2 (by rw [List.length_append]; omega) (by omega) (fun I3 g3 f3 => ?_)
      have e3 : I3 r (30 + i) = nI (V.db i) := by rw [f3.r hr, f2.r hr, f1.r hr]; exact e2
      rw [e3]
      refine c_Lmore hok g3 (by simp only [List.length_append, List.length_cons, List.length_nil]; omega) (by omega) (fun I4 g4 f4 => ?_)
      refine c_Lput (x := 59) hok g4 (by simp only [List.length_append, List.length_cons, List.length_nil]; omega) (by decide) (fun I5 g5 f5 => ?_)
      rw [lnE2, heq] at g5
      exact nx I5 g5 (f1.trans (f2.trans (f3.trans (f4.trans f5))))
    refine v_L_village_26 ?_
    by_cases c1 : 0 < V.kd i
    · have kd2 : ∀ (I1 : MI), tqF I I1 → I1 r (30 + i) = nI (V.db i) := fun I1 f1 => by rw [f1.r hr]; exact e2
      have wk := w_kd (V.kd i) (by omega)
      have l2 := dgs_len i
      have w6 := hW (V.kd i + 1)
      by_cases c2 : 1 < V.db i
      · simp (disch := first | omega | assumption) only [n_lit, n_gLt, n_gLe, n_gEq, n_gEq2, n_gLe2, n_gLt2, n_m1, n_add, n_mul, n_lt, n_le, n_eq, n_cl, n_in, n_rem, n_mlt, n_mle, n_ltm, n_lem, n_eqm, n_meq, n_bit, n_shl, n_b0, n_b1, n_sub, n_inT, nT, nF, lT, lF, eT, eF, not_false_eq_true, not_true_eq_false, sI_at, sI_c, sI_j, aI_at, aI_c, sL_at, sL_c, sL_j, true_and, and_true, not_true_eq_false, not_false_eq_true, forall_const, true_implies, false_implies, implies_true, if_true, if_false, ite_true, ite_false, Bool.not_eq_true, Bool.not_eq_false, Bool.true_eq_false, Bool.false_eq_true, false_and, and_false, or_true, true_or, false_or, or_false, e0, e1]
        refine c_Lwd hok hq (by omega) (fun I1 g1 f1 => ?_)
        rw [wk] at g1
        refine c_Lmore hok g1 (by rw [List.length_append]; omega) (by omega) (fun I2 g2 f2 => ?_)
        refine c_Lput (x := 59) hok g2 (by simp only [List.length_append, List.length_cons, List.length_nil]; omega) (by decide) (fun I3 g3 f3 => ?_)
        have f13 := f1.trans (f2.trans f3)
        have e3 := kd2 I3 f13
        rw [lnE1] at g3
        have ln1 : (lnE (V.kd i + 1, [i])).length ≤ 11 := lnE_len (V.kd i + 1, [i])
        simp (disch := first | omega | assumption) only [n_lit, n_gLt, n_gLe, n_gEq, n_gEq2, n_gLe2, n_gLt2, n_m1, n_add, n_mul, n_lt, n_le, n_eq, n_cl, n_in, n_rem, n_mlt, n_mle, n_ltm, n_lem, n_eqm, n_meq, n_bit, n_shl, n_b0, n_b1, n_sub, n_inT, nT, nF, lT, lF, eT, eF, not_false_eq_true, not_true_eq_false, sI_at, sI_c, sI_j, aI_at, aI_c, sL_at, sL_c, sL_j, true_and, and_true, not_true_eq_false, not_false_eq_true, forall_const, true_implies, false_implies, implies_true, if_true, if_false, ite_true, ite_false, Bool.not_eq_true, Bool.not_eq_false, Bool.true_eq_false, Bool.false_eq_true, false_and, and_false, or_true, true_or, false_or, or_false, e3]
        refine dbt _ I3 (by rw [List.length_append]; omega) c2 f13 g3 ?_
        unfold kdLn
        rw [if_pos c1, if_pos c2, show txE ([(V.kd i + 1, [i])] ++ [(7, [i, V.db i])]) = lnE (V.kd i + 1, [i]) ++ lnE (7, [i, V.db i]) by rw [txE_app, txE1, txE1], List.append_assoc]
      · simp (disch := first | omega | assumption) only [n_lit, n_gLt, n_gLe, n_gEq, n_gEq2, n_gLe2, n_gLt2, n_m1, n_add, n_mul, n_lt, n_le, n_eq, n_cl, n_in, n_rem, n_mlt, n_mle, n_ltm, n_lem, n_eqm, n_meq, n_bit, n_shl, n_b0, n_b1, n_sub, n_inT, nT, nF, lT, lF, eT, eF, not_false_eq_true, not_true_eq_false, sI_at, sI_c, sI_j, aI_at, aI_c, sL_at, sL_c, sL_j, true_and, and_true, not_true_eq_false, not_false_eq_true, forall_const, true_implies, false_implies, implies_true, if_true, if_false, ite_true, ite_false, Bool.not_eq_true, Bool.not_eq_false, Bool.true_eq_false, Bool.false_eq_true, false_and, and_false, or_true, true_or, false_or, or_false, e0, e1]
        refine c_Lwd hok hq (by omega) (fun I1 g1 f1 => ?_)
        rw [wk] at g1
        refine c_Lmore hok g1 (by rw [List.length_append]; omega) (by omega) (fun I2 g2 f2 => ?_)
        refine c_Lput (x := 59) hok g2 (by simp only [List.length_append, List.length_cons, List.length_nil]; omega) (by decide) (fun I3 g3 f3 => ?_)
        have f13 := f1.trans (f2.trans f3)
        have e3 := kd2 I3 f13
        rw [lnE1] at g3
        simp (disch := first | omega | assumption) only [n_lit, n_gLt, n_gLe, n_gEq, n_gEq2, n_gLe2, n_gLt2, n_m1, n_add, n_mul, n_lt, n_le, n_eq, n_cl, n_in, n_rem, n_mlt, n_mle, n_ltm, n_lem, n_eqm, n_meq, n_bit, n_shl, n_b0, n_b1, n_sub, n_inT, nT, nF, lT, lF, eT, eF, not_false_eq_true, not_true_eq_false, sI_at, sI_c, sI_j, aI_at, aI_c, sL_at, sL_c, sL_j, true_and, and_true, not_true_eq_false, not_false_eq_true, forall_const, true_implies, false_implies, implies_true, if_true, if_false, ite_true, ite_false, Bool.not_eq_true, Bool.not_eq_false, Bool.true_eq_false, Bool.false_eq_true, false_and, and_false, or_true, true_or, false_or, or_false, e3]
        refine nx I3 ?_ f13
        unfold kdLn
        rw [if_pos c1, if_neg c2, List.append_nil, txE1]
        exact g3
    · by_cases c2 : 1 < V.db i
      · simp (disch := first | omega | assumption) only [n_lit, n_gLt, n_gLe, n_gEq, n_gEq2, n_gLe2, n_gLt2, n_m1, n_add, n_mul, n_lt, n_le, n_eq, n_cl, n_in, n_rem, n_mlt, n_mle, n_ltm, n_lem, n_eqm, n_meq, n_bit, n_shl, n_b0, n_b1, n_sub, n_inT, nT, nF, lT, lF, eT, eF, not_false_eq_true, not_true_eq_false, sI_at, sI_c, sI_j, aI_at, aI_c, sL_at, sL_c, sL_j, true_and, and_true, not_true_eq_false, not_false_eq_true, forall_const, true_implies, false_implies, implies_true, if_true, if_false, ite_true, ite_false, Bool.not_eq_true, Bool.not_eq_false, Bool.true_eq_false, Bool.false_eq_true, false_and, and_false, or_true, true_or, false_or, or_false, e0, e1, e2]
        refine dbt _ I (by omega) c2 (fun _ _ _ _ => rfl) hq ?_
        unfold kdLn
        rw [if_neg c1, if_pos c2, List.nil_append, txE1]
      · simp (disch := first | omega | assumption) only [n_lit, n_gLt, n_gLe, n_gEq, n_gEq2, n_gLe2, n_gLt2, n_m1, n_add, n_mul, n_lt, n_le, n_eq, n_cl, n_in, n_rem, n_mlt, n_mle, n_ltm, n_lem, n_eqm, n_meq, n_bit, n_shl, n_b0, n_b1, n_sub, n_inT, nT, nF, lT, lF, eT, eF, not_false_eq_true, not_true_eq_false, sI_at, sI_c, sI_j, aI_at, aI_c, sL_at, sL_c, sL_j, true_and, and_true, not_true_eq_false, not_false_eq_true, forall_const, true_implies, false_implies, implies_true, if_true, if_false, ite_true, ite_false, Bool.not_eq_true, Bool.not_eq_false, Bool.true_eq_false, Bool.false_eq_true, false_and, and_false, or_true, true_or, false_or, or_false, e0, e1, e2]
        refine nx I ?_ (fun _ _ _ _ => rfl)
        unfold kdLn
        rw [if_neg c1, if_neg c2]
        show LQ (_ ++ []) B I
        rw [List.append_nil]
        exact hq
/-- the four numbers of a tie, one after another -/
theorem c_Lv153 (hok : B.ok) (hV : Vok V) (hr : 187 ≤ r) (I0 : MI) (hP : vaP r V I0) {j : Nat} (hj : j < V.m) (l : List Nat) (hl : l.length ≤ 500) (hK : ∀ I', LQ (l ++ lnE (8, [V.fr j, V.to j, V.dy j, V.st j])) B I' → tqF I0 I' → SW m_L_village 129 [vr 21 0, vr 164 186, vr 900 r, vi x3, vi x4, vi (nI (50 + 4 * (j + 1))), un] [] b I' L (kI K)) {I : MI} (f0 : tqF I0 I) (hq : LQ (l ++ nmW 8) B I) : SW m_L_village 153 [vr 21 0, vr 164 186, vr 900 r, vi x3, vi x4, vi (nI (50 + 4 * j)), vi (nI 0)] [] b I L (kI K) := by
  obtain ⟨⟨n1, n8⟩, hm, -, -, -, -, ht⟩ := id hV
  obtain ⟨t1, t2, t3, t4, t5⟩ := ht j hj
  obtain ⟨p0, p1, p2, p3⟩ := hP.2.2 j hj
  have w8 : (nmW 8).length = 3 := rfl
  have l0 := dgs_len (V.fr j)
  have l1 := dgs_len (V.to j)
  have l2 := dgs_len (V.dy j)
  have l3 := dgs_len (V.st j)
  have e0 : I r (50 + 4 * j + 0) = nI (V.fr j) := by rw [f0.r hr]; exact p0
  refine v_L_village_153 ?_
  simp (disch := first | omega | assumption) only [n_lit, n_gLt, n_gLe, n_gEq, n_gEq2, n_gLe2, n_gLt2, n_m1, n_add, n_mul, n_lt, n_le, n_eq, n_cl, n_in, n_rem, n_mlt, n_mle, n_ltm, n_lem, n_eqm, n_meq, n_bit, n_shl, n_b0, n_b1, n_sub, n_inT, nT, nF, lT, lF, eT, eF, not_false_eq_true, not_true_eq_false, sI_at, sI_c, sI_j, aI_at, aI_c, sL_at, sL_c, sL_j, true_and, and_true, not_true_eq_false, not_false_eq_true, forall_const, true_implies, false_implies, implies_true, if_true, if_false, ite_true, ite_false, Bool.not_eq_true, Bool.not_eq_false, Bool.true_eq_false, Bool.false_eq_true, false_and, and_false, or_true, true_or, false_or, or_false, e0]
  refine c_Lmore hok hq (by rw [List.length_append]; omega) (by omega) (fun I1 g1 f1 => ?_)
  have e1 : I1 r (50 + 4 * j + 1) = nI (V.to j) := by rw [f1.r hr, f0.r hr]; exact p1
  refine v_L_village_153 ?_
  simp (disch := first | omega | assumption) only [n_lit, n_gLt, n_gLe, n_gEq, n_gEq2, n_gLe2, n_gLt2, n_m1, n_add, n_mul, n_lt, n_le, n_eq, n_cl, n_in, n_rem, n_mlt, n_mle, n_ltm, n_lem, n_eqm, n_meq, n_bit, n_shl, n_b0, n_b1, n_sub, n_inT, nT, nF, lT, lF, eT, eF, not_false_eq_true, not_true_eq_false, sI_at, sI_c, sI_j, aI_at, aI_c, sL_at, sL_c, sL_j, true_and, and_true, not_true_eq_false, not_false_eq_true, forall_const, true_implies, false_implies, implies_true, if_true, if_false, ite_true, ite_false, Bool.not_eq_true, Bool.not_eq_false, Bool.true_eq_false, Bool.false_eq_true, false_and, and_false, or_true, true_or, false_or, or_false, e1]
  refine c_Lmore hok g1 (by simp only [List.length_append, List.length_cons, List.length_nil]; omega) (by omega) (fun I2 g2 f2 => ?_)
  have e2 : I2 r (50 + 4 * j + 2) = nI (V.dy j) := by rw [f2.r hr, f1.r hr, f0.r hr]; exact p2
  refine v_L_village_153 ?_
  simp (disch := first | omega | assumption) only [n_lit, n_gLt, n_gLe, n_gEq, n_gEq2, n_gLe2, n_gLt2, n_m1, n_add, n_mul, n_lt, n_le, n_eq, n_cl, n_in, n_rem, n_mlt, n_mle, n_ltm, n_lem, n_eqm, n_meq, n_bit, n_shl, n_b0, n_b1, n_sub, n_inT, nT, nF, lT, lF, eT, eF, not_false_eq_true, not_true_eq_false, sI_at, sI_c, sI_j, aI_at, aI_c, sL_at, sL_c, sL_j, true_and, and_true, not_true_eq_false, not_false_eq_true, forall_const, true_implies, false_implies, implies_true, if_true, if_false, ite_true, ite_false, Bool.not_eq_true, Bool.not_eq_false, Bool.true_eq_false, Bool.false_eq_true, false_and, and_false, or_true, true_or, false_or, or_false, e2]
  refine c_Lmore hok g2 (by simp only [List.length_append, List.length_cons, List.length_nil]; omega) (by omega) (fun I3 g3 f3 => ?_)
  have e3 : I3 r (50 + 4 * j + 3) = nI (V.st j) := by rw [f3.r hr, f2.r hr, f1.r hr, f0.r hr]; exact p3
  refine v_L_village_153 ?_
  simp (disch := first | omega | assumption) only [n_lit, n_gLt, n_gLe, n_gEq, n_gEq2, n_gLe2, n_gLt2, n_m1, n_add, n_mul, n_lt, n_le, n_eq, n_cl, n_in, n_rem, n_mlt, n_mle, n_ltm, n_lem, n_eqm, n_meq, n_bit, n_shl, n_b0, n_b1, n_sub, n_inT, nT, nF, lT, lF, eT, eF, not_false_eq_true, not_true_eq_false, sI_at, sI_c, sI_j, aI_at, aI_c, sL_at, sL_c, sL_j, true_and, and_true, not_true_eq_false, not_false_eq_true, forall_const, true_implies, false_implies, implies_true, if_true, if_false, ite_true, ite_false, Bool.not_eq_true, Bool.not_eq_false, Bool.true_eq_false, Bool.false_eq_true, false_and, and_false, or_true, true_or, false_or, or_false, e3]
  refine c_Lmore hok g3 (by simp only [List.length_append, List.length_cons, List.length_nil]; omega) (by omega) (fun I4 g4 f4 => ?_)
  refine v_L_village_153 ?_
  simp (disch := first | omega | assumption) only [n_lit, n_gLt, n_gLe, n_gEq, n_gEq2, n_gLe2, n_gLt2, n_m1, n_add, n_mul, n_lt, n_le, n_eq, n_cl, n_in, n_rem, n_mlt, n_mle, n_ltm, n_lem, n_eqm, n_meq, n_bit, n_shl, n_b0, n_b1, n_sub, n_inT, nT, nF, lT, lF, eT, eF, not_false_eq_true, not_true_eq_false, sI_at, sI_c, sI_j, aI_at, aI_c, sL_at, sL_c, sL_j, true_and, and_true, not_true_eq_false, not_false_eq_true, forall_const, true_implies, false_implies, implies_true, if_true, if_false, ite_true, ite_false, Bool.not_eq_true, Bool.not_eq_false, Bool.true_eq_false, Bool.false_eq_true, false_and, and_false, or_true, true_or, false_or, or_false]
  refine c_Lput (x := 59) hok g4 (by simp only [List.length_append, List.length_cons, List.length_nil]; omega) (by decide) (fun I5 g5 f5 => ?_)
  rw [show 50 + 4 * j + 4 = 50 + 4 * (j + 1) by omega]
  refine hK I5 ?_ (f0.trans (f1.trans (f2.trans (f3.trans (f4.trans f5)))))
  have e : ((((((l ++ nmW 8) ++ (32 :: (dgs (V.fr j) ++ [32]))) ++ (32 :: (dgs (V.to j) ++ [32]))) ++ (32 :: (dgs (V.dy j) ++ [32]))) ++ (32 :: (dgs (V.st j) ++ [32]))) ++ [59]) = l ++ lnE (8, [V.fr j, V.to j, V.dy j, V.st j]) := by
    unfold lnE nmE nmE nmE nmE nmE
    simp
  rw [e] at g5
  exact g5
/-- what the class has read is in the place of one, or a further one -/
def txV (B : Bk) (k : Nat) (V : Vil) : Bk := mkB (if k = B.nv then B.nv + 1 else B.nv) B.nt 0 0 nM B.yt (fun j => if j = k then V else B.vl j) B.tl
def txT (B : Bk) (k : Nat) (t : Tel) : Bk := mkB B.nv (if k = B.nt then B.nt + 1 else B.nt) 0 0 nM B.yt B.vl (fun j => if j = k then t else B.tl j)
/-- the law's frame: its own rows, the script, the lengths stay -/
def lwF (I I' : MI) : Prop := ∀ a, 187 ≤ a → I' a = I a
theorem tqF.lw {I I' : MI} (h : tqF I I') : lwF I I' := fun a ha => h.r ha
theorem lwF.trans {I J K : MI} (h : lwF I J) (g : lwF J K) : lwF I K := fun a ha => (g a ha).trans (h a ha)
theorem fault0 {B : Bk} {b : Bool} {I : MI} {L : ML} {K : Int32 → Bool → MI → ML → Prop} (ok : B.ok) (hc : bkC 1 B I) (h0 : B.fl = 0) (hK : ∀ b' I' L', (∀ a, a < 139 ∨ 186 ≤ a → I' a = I a) → K (nI 0) b' I' L') : CI m_S_fault [vr 21 0, vi (nI 0)] b I L K := oc_fault (nI 0) B I b L K ok hc (fun b' I' L' f => by
  have := hK b' I' L' f
  show K (if nI 0 = nI 0 then nI B.fl else _) b' I' L'
  rw [if_pos rfl, h0]
  exact this)
theorem dgs_b {x : Nat} (h : x ≤ 99) : ∀ c, c ∈ dgs x → c < 256 := by
  intro c hc
  unfold dgs at hc
  split at hc
  · rw [List.mem_singleton.mp hc]
    omega
  · rcases List.mem_cons.mp hc with e | hc
    · rw [e]
      omega
    · rw [List.mem_singleton.mp hc]
      omega
theorem nmE_b : ∀ l : List Nat, (∀ v, v ∈ l → v ≤ 99) → ∀ c, c ∈ nmE l → c < 256
  | [], _, c, hc => by cases hc
  | x :: l, h, c, hc => by
    rcases List.mem_cons.mp hc with e | hc
    · rw [e]
      decide
    · rcases List.mem_append.mp hc with hc | hc
      · exact dgs_b (h x List.mem_cons_self) c hc
      · rcases List.mem_cons.mp hc with e | hc
        · rw [e]
          decide
        · exact nmE_b l (fun v hv => h v (List.mem_cons_of_mem _ hv)) c hc
theorem accOK_99 {i : Nat} : ∀ (l : List Nat) (a : Nat) (nb : Nat → Nat), accOK i a l nb → ∀ v, v ∈ l → v ≤ 99
  | [], _, _, _, v, hv => by cases hv
  | x :: l, a, nb, h, v, hv => by
    rcases List.mem_cons.mp hv with e | hv
    · rw [e]
      exact h.2.1
    · exact accOK_99 l _ _ h.2.2 v hv
theorem txE_b {s : Nat} : ∀ (l : List (Nat × List Nat)) (S : Sm), lnsOK s l S → ∀ c, c ∈ txE l → c < 256
  | [], _, _, c, hc => by cases hc
  | q :: l, S, h, c, hc => by
    obtain ⟨⟨h1, -, -, -, h5⟩, h6⟩ := h
    rcases List.mem_append.mp hc with hc | hc
    · rcases List.mem_append.mp hc with hc | hc
      · have := nmW_letL h1 c hc
        omega
      · rcases List.mem_append.mp hc with hc | hc
        · exact nmE_b q.2 (accOK_99 _ _ _ h5) c hc
        · rw [List.mem_singleton.mp hc]
          decide
    · exact txE_b l _ h6 c hc
/-- the end of a text: ended, taken, without a fault -/
theorem c_Ltake {s k : Nat} {a3 a4 : Int32} {l : List (Nat × List Nat)} {I : MI} (hok : B.ok) (hs : s = 0 ∨ s = 1) (hlen : (txE l).length ≤ 545) (hq : LQ (txE l) B I) (hl : l.length ≤ 601) (hln : lnsOK s l S0) (hg : s = 0 → (lnsR l S0).gr < (lnsR l S0).vv.n) (hfl : (lnsR l S0).fl = 0) (F : (a3 = nM ∧ k = cnS B s ∧ k < 2 + s) ∨ (a3 = nI k ∧ k < cnS B s)) (ha4 : a4 = nI k) (hK : ∀ b' I' L' y, LwS (txB (BkE B (txE l).length y) s k (lnsR l S0)) I' → lwF I I' → K (nI 1) b' I' L') : CI m_L_ends [vr 21 0, vr 164 186] b I L (fun v_7 b_7 I_7 L_7 => ((v_7 = nI 0 → K (nI 0) b_7 I_7 L_7) ∧ (¬ v_7 = nI 0 → CI m_S_text [vr 21 0, vi (nI s), vi a3] b_7 I_7 L_7 (fun v_8 b_8 I_8 L_8 => ((¬ v_8 = a4 → K (nI 0) b_8 I_8 L_8) ∧ (¬ (¬ v_8 = a4) → CI m_S_fault [vr 21 0, vi (nI 0)] b_8 I_8 L_8 (fun v_9 b_9 I_9 L_9 => ((¬ v_9 = nI 0 → K (nI 0) b_9 I_9 L_9) ∧ (¬ (¬ v_9 = nI 0) → K (nI 1) b_9 I_9 L_9))))))))) := by
  refine c_ends hok hlen hq (fun z I1 h1 q5 q6 f1 => ⟨fun q => absurd q (by decide), fun _ => ?_⟩)
  obtain ⟨y, hy⟩ : ∃ y : Nat → Nat, y = fun j => (txE l ++ z).getD j 0 := ⟨_, rfl⟩
  -- the book as it is taken
  have hc : bkC 1 (BkE B (txE l).length y) I1 := by rw [hy]; exact h1
  have hAt : At y (txE l).length 0 (txE l) := ⟨Nat.zero_add _, fun j hj => by
    rw [hy, Nat.zero_add]
    show (txE l ++ z).getD j 0 = _
    simp [List.getElem?_append_left hj]⟩
  have hby := txE_b l S0 hln
  have ok1 : (BkE B (txE l).length y).ok := ⟨⟨hok.1.1, hok.1.2.1, show (txE l).length ≤ 600 by omega, hok.1.2.2.2⟩, fun j hj => by
    have hj : j < (txE l).length := hj
    have := hAt.2 j hj
    rw [Nat.zero_add] at this
    show y j < 256
    rw [this]
    refine hby _ ?_
    rw [List.getD_eq_getElem?_getD, List.getElem?_eq_getElem hj]
    exact List.getElem_mem hj, hok.2.2⟩
  have hpar : parS y (txE l).length s = lnsR l S0 := parS_ln hAt hln hl hg
  have Ft : Fit (BkE B (txE l).length y) (nI s) a3 s k := ⟨by omega, rfl, F⟩
  refine c_textF ok1 hc Ft (fun b' I' f2 c2 => ?_)
  have c2 : bkC 1 (txB (BkE B (txE l).length y) s k (parS y (txE l).length s)) I' := c2
  have okT : (txB (BkE B (txE l).length y) s k (parS y (txE l).length s)).ok := txB_ok ok1 Ft
  show (¬ (if (parS y (txE l).length s).fl = 0 then nI k else nM) = a4 → K (nI 0) b' I' L) ∧ _
  rw [hpar] at c2 okT ⊢
  rw [if_pos hfl, ha4]
  refine ⟨fun q => absurd rfl q, fun _ => ?_⟩
  have fl0 : (txB (BkE B (txE l).length y) s k (lnsR l S0)).fl = 0 ∧ (txB (BkE B (txE l).length y) s k (lnsR l S0)).ln = 0 := by
    unfold txB
    rw [if_pos hfl]
    split <;> exact ⟨rfl, rfl⟩
  refine fault0 okT c2 fl0.1 (fun b2 I2 L2 f3 => ⟨fun q => absurd rfl q, fun _ => ?_⟩)
  refine hK b2 I2 L2 y ⟨okT, bkC_fr okT (fun a g1 g2 => f3 a (by omega)) c2, fl0.2, ?_, ?_⟩ (fun a ha => ?_)
  · rw [f3 186 (by omega), f2 186 (by omega) (by omega)]
    exact q5
  · rw [f3 186 (by omega), f2 186 (by omega) (by omega)]
    exact q6
  · rw [f3 a (by omega), f2 a (by omega) (by omega)]
    exact f1 a (by omega) (by omega) (by omega)
end VT
