/-! THE LAW'S TEXTS: the ties, the end; a telling -/
section VT2
variable {B : Bk} {V : Vil} {r : Nat} {b : Bool} {L : ML} {K : Int32 → Bool → MI → ML → Prop} {x3 x4 : Int32}
theorem vl_end (l : List Nat) (sl tw td : Nat) : (((((l ++ nmW 9) ++ (32 :: (dgs sl ++ [32]))) ++ (59 :: nmW 10)) ++ (32 :: (dgs tw ++ [32]))) ++ (32 :: (dgs td ++ [32]))) ++ [59] = l ++ txE [(9, [sl]), (10, [tw, td])] := by
  show _ = l ++ (lnE (9, [sl]) ++ (lnE (10, [tw, td]) ++ []))
  unfold lnE nmE nmE nmE
  simp
theorem c_Lv129 (hok : B.ok) (hV : Vok V) (hr : 187 ≤ r) (I0 : MI) (hP : vaP r V I0) {k : Nat} (F : (x3 = nM ∧ k = B.nv ∧ k < 2) ∨ (x3 = nI k ∧ k < B.nv)) (hx4 : x4 = nI k) (hK : ∀ b' I' L' y, LwS (txB (BkE B (txE (vlL V)).length y) 0 k (lnsR (vlL V) S0)) I' → lwF I0 I' → K (nI 1) b' I' L') : ∀ m j, j + m = V.m → ∀ I, tqF I0 I → LQ (txE ([(0, [V.n])] ++ pLs V V.n) ++ txE (tLs V j)) B I → SW m_L_village 129 [vr 21 0, vr 164 186, vr 900 r, vi x3, vi x4, vi (nI (50 + 4 * j)), un] [] b I L (kI K) := by
  obtain ⟨⟨n1, n8⟩, hm, h3, h4, h5, -, -⟩ := id hV
  have len : ∀ j, j ≤ V.m → (txE ([(0, [V.n])] ++ pLs V V.n) ++ txE (tLs V j)).length ≤ 219 + 23 * j := by
    intro j hj
    have h1 := (pLs_len V V.n).1
    have h2 : (lnE (0, [V.n])).length ≤ 11 := lnE_len (0, [V.n])
    have h3 := (tLs_len V j).1
    rw [txE_app, txE1, List.length_append, List.length_append]
    omega
  intro m
  induction m with
  | zero =>
    intro j hj I f0 hq
    obtain rfl : j = V.m := by omega
    have hl := len V.m (Nat.le_refl _)
    have e1 : I r 1 = nI V.m := by rw [f0.r hr]; exact hP.1.2.1
    have w9 : (nmW 9).length = 4 := rfl
    have w10 : (nmW 10).length = 5 := rfl
    have d1 := dgs_len V.sl
    have d2 := dgs_len V.tw
    have d3 := dgs_len V.td
    refine v_L_village_129 ?_
    simp (disch := first | omega | assumption) only [n_lit, n_gLt, n_gLe, n_gEq, n_gEq2, n_gLe2, n_gLt2, n_m1, n_add, n_mul, n_lt, n_le, n_eq, n_cl, n_in, n_rem, n_mlt, n_mle, n_ltm, n_lem, n_eqm, n_meq, n_bit, n_shl, n_b0, n_b1, n_sub, n_inT, nT, nF, lT, lF, eT, eF, not_false_eq_true, not_true_eq_false, sI_at, sI_c, sI_j, aI_at, aI_c, sL_at, sL_c, sL_j, true_and, and_true, not_true_eq_false, not_false_eq_true, forall_const, true_implies, false_implies, implies_true, if_true, if_false, ite_true, ite_false, Bool.not_eq_true, Bool.not_eq_false, Bool.true_eq_false, Bool.false_eq_true, false_and, and_false, or_true, true_or, false_or, or_false, e1]
    refine c_Lwd hok hq (by omega) (fun I1 g1 f1 => ?_)
    rw [w_sl] at g1
    have e2 : I1 r 2 = nI V.sl := by rw [f1.r hr, f0.r hr]; exact hP.1.2.2.1
    rw [e2]
    refine c_Lmore hok g1 (by rw [List.length_append]; omega) (by omega) (fun I2 g2 f2 => ?_)
    refine c_Lwd hok g2 (by simp only [List.length_append, List.length_cons, List.length_nil]; simp only [List.length_append] at hl; omega) (fun I3 g3 f3 => ?_)
    rw [w_tr] at g3
    have e3 : I3 r 3 = nI V.tw := by rw [f3.r hr, f2.r hr, f1.r hr, f0.r hr]; exact hP.1.2.2.2.1
    rw [e3]
    refine c_Lmore hok g3 (by simp only [List.length_append, List.length_cons, List.length_nil]; simp only [List.length_append] at hl; omega) (by omega) (fun I4 g4 f4 => ?_)
    have e4 : I4 r 4 = nI V.td := by rw [f4.r hr, f3.r hr, f2.r hr, f1.r hr, f0.r hr]; exact hP.1.2.2.2.2
    rw [e4]
    refine c_Lmore hok g4 (by simp only [List.length_append, List.length_cons, List.length_nil]; simp only [List.length_append] at hl; omega) (by omega) (fun I5 g5 f5 => ?_)
    refine c_Lput (x := 59) hok g5 (by simp only [List.length_append, List.length_cons, List.length_nil]; simp only [List.length_append] at hl; omega) (by decide) (fun I6 g6 f6 => ?_)
    rw [vl_end] at g6
    have eq : (txE ([(0, [V.n])] ++ pLs V V.n) ++ txE (tLs V V.m)) ++ txE [(9, [V.sl]), (10, [V.tw, V.td])] = txE (vlL V) := by
      unfold vlL
      rw [← txE_app, ← txE_app]
      congr 1
      simp
    rw [eq] at g6
    obtain ⟨v1, v2, v3, v4⟩ := vl_ok hV
    obtain ⟨l1, l2⟩ := vl_len hV
    have f06 := f0.trans (f1.trans (f2.trans (f3.trans (f4.trans (f5.trans f6)))))
    refine c_Ltake (s := 0) (k := k) (l := vlL V) hok (Or.inl rfl) (by omega) g6 l2 v1 (fun _ => ?_) v2 F hx4 (fun b' I' L' y h f => hK b' I' L' y h (f06.lw.trans f))
    rw [v4]
    exact v3
  | succ m ih =>
    intro j hj I f0 hq
    have hjm : j < V.m := by omega
    have hl := len j (by omega)
    have e1 : I r 1 = nI V.m := by rw [f0.r hr]; exact hP.1.2.1
    refine v_L_village_129 ?_
    simp (disch := first | omega | assumption) only [n_lit, n_gLt, n_gLe, n_gEq, n_gEq2, n_gLe2, n_gLt2, n_m1, n_add, n_mul, n_lt, n_le, n_eq, n_cl, n_in, n_rem, n_mlt, n_mle, n_ltm, n_lem, n_eqm, n_meq, n_bit, n_shl, n_b0, n_b1, n_sub, n_inT, nT, nF, lT, lF, eT, eF, not_false_eq_true, not_true_eq_false, sI_at, sI_c, sI_j, aI_at, aI_c, sL_at, sL_c, sL_j, true_and, and_true, not_true_eq_false, not_false_eq_true, forall_const, true_implies, false_implies, implies_true, if_true, if_false, ite_true, ite_false, Bool.not_eq_true, Bool.not_eq_false, Bool.true_eq_false, Bool.false_eq_true, false_and, and_false, or_true, true_or, false_or, or_false, e1]
    refine c_Lwd hok hq (by omega) (fun I1 g1 f1 => ?_)
    rw [w_ti] at g1
    refine c_Lv153 hok hV hr I0 hP hjm _ (by omega) (fun I' g f => ih (j + 1) (by omega) I' f ?_) (f0.trans f1) g1
    show LQ (_ ++ txE (tLs V j ++ [_])) B I'
    rw [txE_app (tLs V j), txE1, ← List.append_assoc]
    exact g
theorem c_Lvillage {I : MI} {k : Nat} (h : LwS B I) (hV : Vok V) (hr : 187 ≤ r) (hP : vaP r V I) (F : (x3 = nM ∧ k = B.nv ∧ k < 2) ∨ (x3 = nI k ∧ k < B.nv)) (hx4 : x4 = nI k) (hK : ∀ b' I' L' B', LwS B' I' → (B'.nv = if k = B.nv then B.nv + 1 else B.nv) → B'.nt = B.nt → (B'.vl = fun j => if j = k then cV V else B.vl j) → B'.tl = B.tl → lwF I I' → K (nI 1) b' I' L') : CI m_L_village [vr 21 0, vr 164 186, vr 900 r, vi x3, vi x4] b I L K := by
  obtain ⟨⟨n1, n8⟩, -⟩ := id hV
  have hok := h.1
  have hq := h.q
  refine v_L_village_0 ?_
  refine c_Lwd hok hq (by decide) (fun I1 g1 f1 => ?_)
  rw [w_pe] at g1
  have e0 : I1 r 0 = nI V.n := by rw [f1.r hr]; exact hP.1.1
  simp (disch := first | omega | assumption) only [n_lit, n_gLt, n_gLe, n_gEq, n_gEq2, n_gLe2, n_gLt2, n_m1, n_add, n_mul, n_lt, n_le, n_eq, n_cl, n_in, n_rem, n_mlt, n_mle, n_ltm, n_lem, n_eqm, n_meq, n_bit, n_shl, n_b0, n_b1, n_sub, n_inT, nT, nF, lT, lF, eT, eF, not_false_eq_true, not_true_eq_false, sI_at, sI_c, sI_j, aI_at, aI_c, sL_at, sL_c, sL_j, true_and, and_true, not_true_eq_false, not_false_eq_true, forall_const, true_implies, false_implies, implies_true, if_true, if_false, ite_true, ite_false, Bool.not_eq_true, Bool.not_eq_false, Bool.true_eq_false, Bool.false_eq_true, false_and, and_false, or_true, true_or, false_or, or_false, e0]
  refine c_Lmore hok g1 (by decide) (by omega) (fun I2 g2 f2 => ?_)
  have d1 := dgs_len V.n
  refine c_Lput (x := 59) hok g2 (by simp only [List.length_append, List.length_cons, List.length_nil]; have : (nmW 0).length = 6 := rfl; omega) (by decide) (fun I3 g3 f3 => ?_)
  rw [lnE1, List.nil_append] at g3
  have f03 := f1.trans (f2.trans f3)
  refine c_Lv26 hok hV hr I hP (fun I' g f => ?_) V.n 0 (Nat.zero_add _) I3 f03 (by rw [show [(0, [V.n])] ++ pLs V 0 = [(0, [V.n])] from rfl, txE1]; exact g3)
  refine c_Lv129 hok hV hr I hP F hx4 (fun b' I' L' y hl hf => ?_) V.m 0 (Nat.zero_add _) I' f (by rw [show tLs V 0 = [] from rfl]; show LQ (_ ++ []) B I'; rw [List.append_nil]; exact g)
  obtain ⟨v1, v2, v3, v4⟩ := vl_ok hV
  refine hK b' I' L' _ hl ?_ ?_ ?_ ?_ hf
  all_goals (unfold txB; rw [if_pos v2, if_pos rfl])
  · rfl
  · rfl
  · rw [v4]
    rfl
  · rfl
/-- a telling as it lies in a row of the law's, of any length -/
def taP (r : Nat) (l : List Act) (I : MI) : Prop := I r 0 = nI l.length ∧ (∃ N, 1 + 4 * l.length ≤ N ∧ N < 1000 ∧ I (200000 + r) 0 = nI N) ∧ ∀ k q, l[k]? = some q → I r (1 + 4 * k) = nI q.1 ∧ I r (1 + 4 * k + 1) = nI q.2.1 ∧ I r (1 + 4 * k + 2) = nI q.2.2.1 ∧ I r (1 + 4 * k + 3) = if q.1 = 2 then nI q.2.2.2 else nM
theorem taP_fr {r : Nat} {l : List Act} {I I' : MI} (h1 : I' r = I r) (h2 : I' (200000 + r) = I (200000 + r)) (k : taP r l I) : taP r l I' := by
  unfold taP
  rw [h1, h2]
  exact k
theorem c_Lt53 {I0 : MI} {l : List Act} {k : Nat} {q : Act} (hok : B.ok) (hr : 187 ≤ r) (hP : taP r l I0) (hk : l[k]? = some q) (hkl : k < 30) (hA : Aok q) (m : List Nat) (hm : m.length ≤ 520) (w : Nat) (hw : w = 11 + q.1) (hK : ∀ I', LQ (m ++ lnE (acLn q)) B I' → tqF I0 I' → SW m_L_telling 3 [vr 21 0, vr 164 186, vr 4 r, vi x3, vi x4, vi (nI (1 + 4 * (k + 1))), un] [] b I' L (kI K)) {I : MI} (f0 : tqF I0 I) (hq : LQ (m ++ nmW w) B I) : SW m_L_telling 53 [vr 21 0, vr 164 186, vr 4 r, vi x3, vi x4, vi (nI (1 + 4 * k)), vi (nI 1)] [] b I L (kI K) := by
  obtain ⟨so, a, c, d⟩ := q
  obtain ⟨p0, ⟨N, N1, N2, N3⟩, p⟩ := hP
  obtain ⟨q0, q1, q2, q3⟩ := p k _ hk
  have hkl2 : k < l.length := (List.getElem?_eq_some_iff.mp hk).1
  have q1 : I0 r (1 + 4 * k + 1) = nI a := q1
  have q2 : I0 r (1 + 4 * k + 2) = nI c := q2
  have q3 : I0 r (1 + 4 * k + 3) = if so = 2 then nI d else nM := q3
  have hw : w = 11 + so := hw
  have w6 := nmW_len6 w
  have ab : a ≤ 99 ∧ c ≤ 99 ∧ (so = 2 → d ≤ 99) ∧ so ≤ 2 := by
    rcases hA with ⟨h1, h2, h3, h4⟩ | ⟨h1, h2, h3, h4⟩
    · have h1 : so = 0 ∨ so = 1 := h1
      have h2 : a ≤ 99 := h2
      have h3 : c < 16 := h3
      omega
    · have h1 : so = 2 := h1
      have h2 : a < 40 := h2
      have h3 : c ≤ d := h3
      have h4 : d ≤ 99 := h4
      omega
  obtain ⟨a9, c9, d9, s2⟩ := ab
  have d1 := dgs_len a
  have d2 := dgs_len c
  have d3 := dgs_len d
  have lN : ∀ J, tqF I0 J → J (200000 + r) 0 = nI N := fun J f => by rw [f.r (by omega)]; exact N3
  have rJ : ∀ J, tqF I0 J → J r = I0 r := fun J f => f.r hr
  have eN := lN I f0
  have e1 : I r (1 + 4 * k + 1) = nI a := by rw [rJ I f0]; exact q1
  refine v_L_telling_53 ?_
  simp (disch := first | omega | assumption) only [n_lit, n_gLt, n_gLe, n_gEq, n_gEq2, n_gLe2, n_gLt2, n_m1, n_add, n_mul, n_lt, n_le, n_eq, n_cl, n_in, n_rem, n_mlt, n_mle, n_ltm, n_lem, n_eqm, n_meq, n_bit, n_shl, n_b0, n_b1, n_sub, n_inT, nT, nF, lT, lF, eT, eF, not_false_eq_true, not_true_eq_false, sI_at, sI_c, sI_j, aI_at, aI_c, sL_at, sL_c, sL_j, true_and, and_true, not_true_eq_false, not_false_eq_true, forall_const, true_implies, false_implies, implies_true, if_true, if_false, ite_true, ite_false, Bool.not_eq_true, Bool.not_eq_false, Bool.true_eq_false, Bool.false_eq_true, false_and, and_false, or_true, true_or, false_or, or_false, eN, e1]
  refine c_Lmore hok hq (by rw [List.length_append]; omega) (by omega) (fun I1 g1 f1 => ?_)
  have f01 := f0.trans f1
  have eN1 := lN I1 f01
  have e2 : I1 r (1 + 4 * k + 2) = nI c := by rw [rJ I1 f01]; exact q2
  refine v_L_telling_53 ?_
  simp (disch := first | omega | assumption) only [n_lit, n_gLt, n_gLe, n_gEq, n_gEq2, n_gLe2, n_gLt2, n_m1, n_add, n_mul, n_lt, n_le, n_eq, n_cl, n_in, n_rem, n_mlt, n_mle, n_ltm, n_lem, n_eqm, n_meq, n_bit, n_shl, n_b0, n_b1, n_sub, n_inT, nT, nF, lT, lF, eT, eF, not_false_eq_true, not_true_eq_false, sI_at, sI_c, sI_j, aI_at, aI_c, sL_at, sL_c, sL_j, true_and, and_true, not_true_eq_false, not_false_eq_true, forall_const, true_implies, false_implies, implies_true, if_true, if_false, ite_true, ite_false, Bool.not_eq_true, Bool.not_eq_false, Bool.true_eq_false, Bool.false_eq_true, false_and, and_false, or_true, true_or, false_or, or_false, eN1, e2]
  refine c_Lmore hok g1 (by simp only [List.length_append, List.length_cons, List.length_nil]; omega) (by omega) (fun I2 g2 f2 => ?_)
  have f02 := f01.trans f2
  have eN2 := lN I2 f02
  refine v_L_telling_53 ?_
  by_cases z : so = 2
  · have e3 : I2 r (1 + 4 * k + 3) = nI d := by rw [rJ I2 f02, q3, if_pos z]
    have d9 := d9 z
    simp (disch := first | omega | assumption) only [n_lit, n_gLt, n_gLe, n_gEq, n_gEq2, n_gLe2, n_gLt2, n_m1, n_add, n_mul, n_lt, n_le, n_eq, n_cl, n_in, n_rem, n_mlt, n_mle, n_ltm, n_lem, n_eqm, n_meq, n_bit, n_shl, n_b0, n_b1, n_sub, n_inT, nT, nF, lT, lF, eT, eF, not_false_eq_true, not_true_eq_false, sI_at, sI_c, sI_j, aI_at, aI_c, sL_at, sL_c, sL_j, true_and, and_true, not_true_eq_false, not_false_eq_true, forall_const, true_implies, false_implies, implies_true, if_true, if_false, ite_true, ite_false, Bool.not_eq_true, Bool.not_eq_false, Bool.true_eq_false, Bool.false_eq_true, false_and, and_false, or_true, true_or, false_or, or_false, eN2, e3]
    refine c_Lmore hok g2 (by simp only [List.length_append, List.length_cons, List.length_nil]; omega) (by omega) (fun I3 g3 f3 => ?_)
    refine v_L_telling_53 ?_
    simp (disch := first | omega | assumption) only [n_lit, n_gLt, n_gLe, n_gEq, n_gEq2, n_gLe2, n_gLt2, n_m1, n_add, n_mul, n_lt, n_le, n_eq, n_cl, n_in, n_rem, n_mlt, n_mle, n_ltm, n_lem, n_eqm, n_meq, n_bit, n_shl, n_b0, n_b1, n_sub, n_inT, nT, nF, lT, lF, eT, eF, not_false_eq_true, not_true_eq_false, sI_at, sI_c, sI_j, aI_at, aI_c, sL_at, sL_c, sL_j, true_and, and_true, not_true_eq_false, not_false_eq_true, forall_const, true_implies, false_implies, implies_true, if_true, if_false, ite_true, ite_false, Bool.not_eq_true, Bool.not_eq_false, Bool.true_eq_false, Bool.false_eq_true, false_and, and_false, or_true, true_or, false_or, or_false]
    refine c_Lput (x := 59) hok g3 (by simp only [List.length_append, List.length_cons, List.length_nil]; omega) (by decide) (fun I4 g4 f4 => ?_)
    rw [show 1 + 4 * k + 4 = 1 + 4 * (k + 1) by omega]
    refine hK I4 ?_ (f02.trans (f3.trans f4))
    have e : ((((m ++ nmW w) ++ (32 :: (dgs a ++ [32]))) ++ (32 :: (dgs c ++ [32]))) ++ (32 :: (dgs d ++ [32]))) ++ [59] = m ++ lnE (acLn (so, a, c, d)) := by
      unfold acLn
      rw [if_pos z]
      show _ = m ++ lnE (11 + so, [a, c, d])
      rw [← hw]
      unfold lnE nmE nmE nmE nmE
      simp
    rw [e] at g4
    exact g4
  · have e3 : I2 r (1 + 4 * k + 3) = nM := by rw [rJ I2 f02, q3, if_neg z]
    simp (disch := first | omega | assumption) only [n_lit, n_gLt, n_gLe, n_gEq, n_gEq2, n_gLe2, n_gLt2, n_m1, n_add, n_mul, n_lt, n_le, n_eq, n_cl, n_in, n_rem, n_mlt, n_mle, n_ltm, n_lem, n_eqm, n_meq, n_bit, n_shl, n_b0, n_b1, n_sub, n_inT, nT, nF, lT, lF, eT, eF, not_false_eq_true, not_true_eq_false, sI_at, sI_c, sI_j, aI_at, aI_c, sL_at, sL_c, sL_j, true_and, and_true, not_true_eq_false, not_false_eq_true, forall_const, true_implies, false_implies, implies_true, if_true, if_false, ite_true, ite_false, Bool.not_eq_true, Bool.not_eq_false, Bool.true_eq_false, Bool.false_eq_true, false_and, and_false, or_true, true_or, false_or, or_false, eN2, e3]
    refine v_L_telling_53 ?_
    simp (disch := first | omega | assumption) only [n_lit, n_gLt, n_gLe, n_gEq, n_gEq2, n_gLe2, n_gLt2, n_m1, n_add, n_mul, n_lt, n_le, n_eq, n_cl, n_in, n_rem, n_mlt, n_mle, n_ltm, n_lem, n_eqm, n_meq, n_bit, n_shl, n_b0, n_b1, n_sub, n_inT, nT, nF, lT, lF, eT, eF, not_false_eq_true, not_true_eq_false, sI_at, sI_c, sI_j, aI_at, aI_c, sL_at, sL_c, sL_j, true_and, and_true, not_true_eq_false, not_false_eq_true, forall_const, true_implies, false_implies, implies_true, if_true, if_false, ite_true, ite_false, Bool.not_eq_true, Bool.not_eq_false, Bool.true_eq_false, Bool.false_eq_true, false_and, and_false, or_true, true_or, false_or, or_false]
    refine c_Lput (x := 59) hok g2 (by simp only [List.length_append, List.length_cons, List.length_nil]; omega) (by decide) (fun I4 g4 f4 => ?_)
    rw [show 1 + 4 * k + 4 = 1 + 4 * (k + 1) by omega]
    refine hK I4 ?_ (f02.trans f4)
    have e : (((m ++ nmW w) ++ (32 :: (dgs a ++ [32]))) ++ (32 :: (dgs c ++ [32]))) ++ [59] = m ++ lnE (acLn (so, a, c, d)) := by
      unfold acLn
      rw [if_neg z]
      show _ = m ++ lnE (11 + so, [a, c])
      rw [← hw]
      unfold lnE nmE nmE nmE
      simp
    rw [e] at g4
    exact g4
theorem c_Lt3 {I0 : MI} {l : List Act} {k0 : Nat} (hok : B.ok) (hr : 187 ≤ r) (hP : taP r l I0) (hA : ∀ q, q ∈ l → Aok q) (hl : l.length ≤ 24) (F : (x3 = nM ∧ k0 = B.nt ∧ k0 < 3) ∨ (x3 = nI k0 ∧ k0 < B.nt)) (hx4 : x4 = nI k0) (hK : ∀ b' I' L' y, LwS (txB (BkE B (txE (tlLs l)).length y) 1 k0 (lnsR (tlLs l) S0)) I' → lwF I0 I' → K (nI 1) b' I' L') : ∀ (suf pre : List Act) (I : MI), l = pre ++ suf → tqF I0 I → LQ (txE (tlLs pre)) B I → SW m_L_telling 3 [vr 21 0, vr 164 186, vr 4 r, vi x3, vi x4, vi (nI (1 + 4 * pre.length)), un] [] b I L (kI K) := by
  obtain ⟨p0, ⟨N, N1, N2, N3⟩, p⟩ := id hP
  intro suf
  induction suf with
  | nil =>
    intro pre I hpre f0 hq
    rw [List.append_nil] at hpre
    subst hpre
    have e0 : I r 0 = nI l.length := by rw [f0.r hr]; exact p0
    have eN : I (200000 + r) 0 = nI N := by rw [f0.r (by omega)]; exact N3
    refine v_L_telling_3 ?_
    simp (disch := first | omega | assumption) only [n_lit, n_gLt, n_gLe, n_gEq, n_gEq2, n_gLe2, n_gLt2, n_m1, n_add, n_mul, n_lt, n_le, n_eq, n_cl, n_in, n_rem, n_mlt, n_mle, n_ltm, n_lem, n_eqm, n_meq, n_bit, n_shl, n_b0, n_b1, n_sub, n_inT, nT, nF, lT, lF, eT, eF, not_false_eq_true, not_true_eq_false, sI_at, sI_c, sI_j, aI_at, aI_c, sL_at, sL_c, sL_j, true_and, and_true, not_true_eq_false, not_false_eq_true, forall_const, true_implies, false_implies, implies_true, if_true, if_false, ite_true, ite_false, Bool.not_eq_true, Bool.not_eq_false, Bool.true_eq_false, Bool.false_eq_true, false_and, and_false, or_true, true_or, false_or, or_false, e0, eN]
    obtain ⟨h1, h2, h3⟩ := ac_all l S0 hA (by show 0 + l.length ≤ 30; omega) rfl
    obtain ⟨h4, h5⟩ := tlLs_len l
    exact c_Ltake (s := 1) (k := k0) (l := tlLs l) hok (Or.inr rfl) (by omega) hq (by omega) h1 (fun z => absurd z (by decide)) h3 F hx4 (fun b' I' L' y h f => hK b' I' L' y h (f0.lw.trans f))
  | cons q suf ih =>
    intro pre I hpre f0 hq
    have hk : l[pre.length]? = some q := by
      rw [hpre]
      simp
    have hlen : l.length = pre.length + (suf.length + 1) := by
      rw [hpre, List.length_append]
      rfl
    have hAq := hA q (by rw [hpre]; simp)
    have e0 : I r 0 = nI l.length := by rw [f0.r hr]; exact p0
    have eN : I (200000 + r) 0 = nI N := by rw [f0.r (by omega)]; exact N3
    have eq : I r (1 + 4 * pre.length) = nI q.1 := by rw [f0.r hr]; exact (p _ q hk).1
    obtain ⟨h4, h5⟩ := tlLs_len pre
    have nx : ∀ w I', w = 11 + q.1 → tqF I0 I' → LQ (txE (tlLs pre) ++ nmW w) B I' → SW m_L_telling 53 [vr 21 0, vr 164 186, vr 4 r, vi x3, vi x4, vi (nI (1 + 4 * pre.length)), vi (nI 1)] [] b I' L (kI K) := fun w I' hw f g => c_Lt53 hok hr hP hk (by omega) hAq _ (by omega) w hw (fun I2 g2 f2 => by
      have := ih (pre ++ [q]) I2 (by rw [hpre]; simp) f2 (by rw [tlLs_app, txE_app]; show LQ (txE (tlLs pre) ++ txE [acLn q]) B I2; rw [txE1]; exact g2)
      rw [List.length_append] at this
      exact this) f g
    refine v_L_telling_3 ?_
    rcases (show q.1 = 0 ∨ q.1 = 1 ∨ q.1 = 2 by rcases hAq with ⟨h, -⟩ | ⟨h, -⟩ <;> omega) with z | z | z
    · rw [z] at eq
      simp (disch := first | omega | assumption) only [n_lit, n_gLt, n_gLe, n_gEq, n_gEq2, n_gLe2, n_gLt2, n_m1, n_add, n_mul, n_lt, n_le, n_eq, n_cl, n_in, n_rem, n_mlt, n_mle, n_ltm, n_lem, n_eqm, n_meq, n_bit, n_shl, n_b0, n_b1, n_sub, n_inT, nT, nF, lT, lF, eT, eF, not_false_eq_true, not_true_eq_false, sI_at, sI_c, sI_j, aI_at, aI_c, sL_at, sL_c, sL_j, true_and, and_true, not_true_eq_false, not_false_eq_true, forall_const, true_implies, false_implies, implies_true, if_true, if_false, ite_true, ite_false, Bool.not_eq_true, Bool.not_eq_false, Bool.true_eq_false, Bool.false_eq_true, false_and, and_false, or_true, true_or, false_or, or_false, e0, eN, eq]
      refine c_Lwd hok hq (by omega) (fun I1 g1 f1 => nx 11 I1 (by omega) (f0.trans f1) ?_)
      rw [w_wd] at g1
      exact g1
    · rw [z] at eq
      simp (disch := first | omega | assumption) only [n_lit, n_gLt, n_gLe, n_gEq, n_gEq2, n_gLe2, n_gLt2, n_m1, n_add, n_mul, n_lt, n_le, n_eq, n_cl, n_in, n_rem, n_mlt, n_mle, n_ltm, n_lem, n_eqm, n_meq, n_bit, n_shl, n_b0, n_b1, n_sub, n_inT, nT, nF, lT, lF, eT, eF, not_false_eq_true, not_true_eq_false, sI_at, sI_c, sI_j, aI_at, aI_c, sL_at, sL_c, sL_j, true_and, and_true, not_true_eq_false, not_false_eq_true, forall_const, true_implies, false_implies, implies_true, if_true, if_false, ite_true, ite_false, Bool.not_eq_true, Bool.not_eq_false, Bool.true_eq_false, Bool.false_eq_true, false_and, and_false, or_true, true_or, false_or, or_false, e0, eN, eq]
      refine c_Lwd hok hq (by omega) (fun I1 g1 f1 => nx 12 I1 (by omega) (f0.trans f1) ?_)
      rw [w_dn] at g1
      exact g1
    · rw [z] at eq
      simp (disch := first | omega | assumption) only [n_lit, n_gLt, n_gLe, n_gEq, n_gEq2, n_gLe2, n_gLt2, n_m1, n_add, n_mul, n_lt, n_le, n_eq, n_cl, n_in, n_rem, n_mlt, n_mle, n_ltm, n_lem, n_eqm, n_meq, n_bit, n_shl, n_b0, n_b1, n_sub, n_inT, nT, nF, lT, lF, eT, eF, not_false_eq_true, not_true_eq_false, sI_at, sI_c, sI_j, aI_at, aI_c, sL_at, sL_c, sL_j, true_and, and_true, not_true_eq_false, not_false_eq_true, forall_const, true_implies, false_implies, implies_true, if_true, if_false, ite_true, ite_false, Bool.not_eq_true, Bool.not_eq_false, Bool.true_eq_false, Bool.false_eq_true, false_and, and_false, or_true, true_or, false_or, or_false, e0, eN, eq]
      refine c_Lwd hok hq (by omega) (fun I1 g1 f1 => nx 13 I1 (by omega) (f0.trans f1) ?_)
      rw [w_wl] at g1
      exact g1
theorem c_Ltelling {I : MI} {l : List Act} {k : Nat} (h : LwS B I) (hr : 187 ≤ r) (hP : taP r l I) (hA : ∀ q, q ∈ l → Aok q) (hl : l.length ≤ 24) (F : (x3 = nM ∧ k = B.nt ∧ k < 3) ∨ (x3 = nI k ∧ k < B.nt)) (hx4 : x4 = nI k) (hK : ∀ b' I' L' B', LwS B' I' → B'.nv = B.nv → (B'.nt = if k = B.nt then B.nt + 1 else B.nt) → B'.vl = B.vl → (B'.tl = fun j => if j = k then tlL l telN else B.tl j) → lwF I I' → K (nI 1) b' I' L') : CI m_L_telling [vr 21 0, vr 164 186, vr 4 r, vi x3, vi x4] b I L K := by
  refine v_L_telling_0 ?_
  refine c_Lt3 h.1 hr hP hA hl F hx4 (fun b' I' L' y hs hf => ?_) l [] I rfl (fun _ _ _ _ => rfl) h.q
  obtain ⟨h1, h2, h3⟩ := ac_all l S0 hA (by show 0 + l.length ≤ 30; omega) rfl
  refine hK b' I' L' _ hs ?_ ?_ ?_ ?_ hf
  all_goals (unfold txB; rw [if_pos h3, if_neg (by decide)])
  · rfl
  · rfl
  · rfl
  · rw [h2]
    rfl
end VT2
