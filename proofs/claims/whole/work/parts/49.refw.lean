/-! A WORLD in the reference's numbers -/
def rtP (t : Tel) (I : MI) : Prop := (t.n = 0 ∧ I 186 12 = nM) ∨ ∃ u, 1010 ≤ u ∧ u ≤ 1254 ∧ I 186 12 = nI u ∧ telM u t I
def rxP (x : Wi) (I : MI) (L : ML) : Prop := I 186 26 = nI x.al.toNat ∧ (∀ p, p < 32 → x.al = true → bt (I 186 25) p = x.bg p) ∧ (∀ p, p < 32 → bt (I 186 13) p = x.dn p) ∧ (anyN 32 x.dn = true → I 186 14 = nI x.df ∧ ∃ m, 1 ≤ m ∧ m ≤ 20 ∧ I 186 15 = nI m ∧ x.dt + 1 = x.df + m) ∧ (∀ p, p < 32 → bt (I 186 16) p = x.si p) ∧ (∀ k, k < 64 → bl (L 186 20) k = x.dd k) ∧ (∀ k, k < 64 → bl (L 186 21) k = x.ba k) ∧ (anyN 64 x.ba = true → I 186 22 = nI x.bf)
/-- another village than the one told: of another kind, doubt; with a further tie -/
def vmod (v u : Vil) (x : Wi) (I : MI) : Prop := (u.n = v.n ∧ u.sl = v.sl ∧ u.tw = v.tw ∧ u.td = v.td) ∧ (∀ t, t < v.m → u.fr t = v.fr t ∧ u.to t = v.to t ∧ u.dy t = v.dy t ∧ u.st t = v.st t) ∧ (∀ p, p < 16 → (I 186 17 = nI p ∧ I 186 18 = nI (u.kd p)) ∨ ((¬ nI p = I 186 17 ∨ I 186 18 < nI 0) ∧ u.kd p = v.kd p)) ∧ (∀ p, p < 16 → (I 186 17 = nI p ∧ I 186 19 = nI (u.db p)) ∨ ((¬ nI p = I 186 17 ∨ I 186 19 < nI 0) ∧ u.db p = v.db p)) ∧ ((I 186 23 = nM ∧ u.m = v.m) ∨ ((I 186 23 = nI (u.fr v.m) ∧ I 186 24 = nI (u.to v.m)) ∧ u.m = v.m + 1 ∧ u.dy v.m = 1 ∧ u.st v.m = 9 ∧ x.dd v.m = false ∧ x.ba v.m = false))
def WM (v : Vil) (t : Tel) (x : Wi) (o : Nat) (w : Wd) (I : MI) (L : ML) : Prop := (w = mkW w.v v.m t x ∧ w.v.ok 41 ∧ v.ok 40 ∧ t.ok ∧ x.ok) ∧ ((610 ≤ o ∧ o ≤ 810) ∧ I 186 11 = nI o ∧ vilM o v I) ∧ rtP t I ∧ rxP x I L ∧ vmod v w.v x I
section
variable {v : Vil} {t : Tel} {x : Wi} {o : Nat} {w : Wd} {b : Bool} {I : MI} {L : ML}
theorem WM.fr {I' : MI} {L' : ML} (h : WM v t x o w I L) (h1 : ∀ j, j < 27 → I' 186 j = I 186 j) (h2 : I' 187 = I 187) (h3 : L' 186 = L 186) : WM v t x o w I' L' := by
  obtain ⟨a1, ⟨a2, a3, a4⟩, a5, a6, a7⟩ := h
  refine ⟨a1, ⟨a2, (h1 11 (by decide)).trans a3, vilM_fr h2 a4⟩, ?_, ?_, ?_⟩
  · rcases a5 with ⟨q1, q2⟩ | ⟨u, q1, q2, q3, q4⟩
    · exact Or.inl ⟨q1, (h1 12 (by decide)).trans q2⟩
    · exact Or.inr ⟨u, q1, q2, (h1 12 (by decide)).trans q3, telM_fr h2 q4⟩
  · unfold rxP
    rw [h1 26 (by decide), h1 25 (by decide), h1 13 (by decide), h1 14 (by decide), h1 15 (by decide), h1 16 (by decide), h1 22 (by decide), h3]
    exact a6
  · unfold vmod
    rw [h1 17 (by decide), h1 18 (by decide), h1 19 (by decide), h1 23 (by decide), h1 24 (by decide)]
    exact a7
theorem cm_people {K : Int32 → Bool → MI → ML → Prop} (h : WM v t x o w I L) (hK : K (nI w.v.n) b I L) : CI m_M_people [vr 22 186] b I L K := by
  obtain ⟨-, ⟨a2, a3, a4⟩, -, -, a7⟩ := h
  have e := a4.1.1
  rw [a7.1.1] at hK
  refine v_M_people_0 ?_
  simp (disch := first | omega | assumption) only [n_lit, n_gLt, n_gLe, n_gEq, n_gEq2, n_gLe2, n_gLt2, n_m1, n_add, n_mul, n_lt, n_le, n_eq, n_cl, n_in, n_rem, n_mlt, n_mle, n_ltm, n_lem, n_eqm, n_meq, n_bit, n_shl, n_b0, n_b1, n_sub, n_inT, nT, nF, lT, lF, eT, eF, not_false_eq_true, not_true_eq_false, sI_at, sI_c, sI_j, aI_at, aI_c, sL_at, sL_c, sL_j, true_and, and_true, not_true_eq_false, not_false_eq_true, forall_const, true_implies, false_implies, implies_true, if_true, if_false, ite_true, ite_false, Bool.not_eq_true, Bool.not_eq_false, Bool.true_eq_false, Bool.false_eq_true, false_and, and_false, or_true, true_or, false_or, or_false, a3, Nat.add_zero, e]
  exact hK
theorem cm_ties {K : Int32 → Bool → MI → ML → Prop} (h : WM v t x o w I L) (hK : K (nI v.m) b I L) : CI m_M_ties [vr 22 186] b I L K := by
  obtain ⟨-, ⟨a2, a3, a4⟩, -, -, a7⟩ := h
  have e := a4.1.2.1
  refine v_M_ties_0 ?_
  simp (disch := first | omega | assumption) only [n_lit, n_gLt, n_gLe, n_gEq, n_gEq2, n_gLe2, n_gLt2, n_m1, n_add, n_mul, n_lt, n_le, n_eq, n_cl, n_in, n_rem, n_mlt, n_mle, n_ltm, n_lem, n_eqm, n_meq, n_bit, n_shl, n_b0, n_b1, n_sub, n_inT, nT, nF, lT, lF, eT, eF, not_false_eq_true, not_true_eq_false, sI_at, sI_c, sI_j, aI_at, aI_c, sL_at, sL_c, sL_j, true_and, and_true, not_true_eq_false, not_false_eq_true, forall_const, true_implies, false_implies, implies_true, if_true, if_false, ite_true, ite_false, Bool.not_eq_true, Bool.not_eq_false, Bool.true_eq_false, Bool.false_eq_true, false_and, and_false, or_true, true_or, false_or, or_false, a3, e]
  exact hK
theorem cm_tieOf {k q : Nat} {K : Int32 → Bool → MI → ML → Prop} (h : WM v t x o w I L) (hk : k < v.m) (hq : q < 4) (hK : K (nI (if q = 0 then v.fr k else if q = 1 then v.to k else if q = 2 then v.dy k else v.st k)) b I L) : CI m_M_tieOf [vr 22 186, vi (nI k), vi (nI q)] b I L K := by
  obtain ⟨⟨-, -, okv, -, -⟩, ⟨a2, a3, a4⟩, -, -, a7⟩ := h
  obtain ⟨e0, e1, e2, e3⟩ := a4.2.2 k hk
  have := okv.2.1
  refine v_M_tieOf_0 ?_
  rcases (by omega : q = 0 ∨ q = 1 ∨ q = 2 ∨ q = 3) with rfl | rfl | rfl | rfl
  · simp (disch := first | omega | assumption) only [n_lit, n_gLt, n_gLe, n_gEq, n_gEq2, n_gLe2, n_gLt2, n_m1, n_add, n_mul, n_lt, n_le, n_eq, n_cl, n_in, n_rem, n_mlt, n_mle, n_ltm, n_lem, n_eqm, n_meq, n_bit, n_shl, n_b0, n_b1, n_sub, n_inT, nT, nF, lT, lF, eT, eF, not_false_eq_true, not_true_eq_false, sI_at, sI_c, sI_j, aI_at, aI_c, sL_at, sL_c, sL_j, true_and, and_true, not_true_eq_false, not_false_eq_true, forall_const, true_implies, false_implies, implies_true, if_true, if_false, ite_true, ite_false, Bool.not_eq_true, Bool.not_eq_false, Bool.true_eq_false, Bool.false_eq_true, false_and, and_false, or_true, true_or, false_or, or_false, a3, Nat.add_zero, e0]
    exact hK
  · simp (disch := first | omega | assumption) only [n_lit, n_gLt, n_gLe, n_gEq, n_gEq2, n_gLe2, n_gLt2, n_m1, n_add, n_mul, n_lt, n_le, n_eq, n_cl, n_in, n_rem, n_mlt, n_mle, n_ltm, n_lem, n_eqm, n_meq, n_bit, n_shl, n_b0, n_b1, n_sub, n_inT, nT, nF, lT, lF, eT, eF, not_false_eq_true, not_true_eq_false, sI_at, sI_c, sI_j, aI_at, aI_c, sL_at, sL_c, sL_j, true_and, and_true, not_true_eq_false, not_false_eq_true, forall_const, true_implies, false_implies, implies_true, if_true, if_false, ite_true, ite_false, Bool.not_eq_true, Bool.not_eq_false, Bool.true_eq_false, Bool.false_eq_true, false_and, and_false, or_true, true_or, false_or, or_false, a3, e1]
    exact hK
  · simp (disch := first | omega | assumption) only [n_lit, n_gLt, n_gLe, n_gEq, n_gEq2, n_gLe2, n_gLt2, n_m1, n_add, n_mul, n_lt, n_le, n_eq, n_cl, n_in, n_rem, n_mlt, n_mle, n_ltm, n_lem, n_eqm, n_meq, n_bit, n_shl, n_b0, n_b1, n_sub, n_inT, nT, nF, lT, lF, eT, eF, not_false_eq_true, not_true_eq_false, sI_at, sI_c, sI_j, aI_at, aI_c, sL_at, sL_c, sL_j, true_and, and_true, not_true_eq_false, not_false_eq_true, forall_const, true_implies, false_implies, implies_true, if_true, if_false, ite_true, ite_false, Bool.not_eq_true, Bool.not_eq_false, Bool.true_eq_false, Bool.false_eq_true, false_and, and_false, or_true, true_or, false_or, or_false, a3, e2]
    exact hK
  · simp (disch := first | omega | assumption) only [n_lit, n_gLt, n_gLe, n_gEq, n_gEq2, n_gLe2, n_gLt2, n_m1, n_add, n_mul, n_lt, n_le, n_eq, n_cl, n_in, n_rem, n_mlt, n_mle, n_ltm, n_lem, n_eqm, n_meq, n_bit, n_shl, n_b0, n_b1, n_sub, n_inT, nT, nF, lT, lF, eT, eF, not_false_eq_true, not_true_eq_false, sI_at, sI_c, sI_j, aI_at, aI_c, sL_at, sL_c, sL_j, true_and, and_true, not_true_eq_false, not_false_eq_true, forall_const, true_implies, false_implies, implies_true, if_true, if_false, ite_true, ite_false, Bool.not_eq_true, Bool.not_eq_false, Bool.true_eq_false, Bool.false_eq_true, false_and, and_false, or_true, true_or, false_or, or_false, a3, e3]
    exact hK
theorem cm_acts {K : Int32 → Bool → MI → ML → Prop} (h : WM v t x o w I L) (hK : K (nI t.n) b I L) : CI m_M_acts [vr 22 186] b I L K := by
  obtain ⟨-, -, a5, -, -⟩ := h
  refine v_M_acts_0 ?_
  rcases a5 with ⟨q1, q2⟩ | ⟨u, q1, q2, q3, q4⟩
  · rw [q1] at hK
    have z : (nI 0 ≤ nM) = False := n_lem (by decide)
    simp (disch := first | omega | assumption) only [n_lit, n_gLt, n_gLe, n_gEq, n_gEq2, n_gLe2, n_gLt2, n_m1, n_add, n_mul, n_lt, n_le, n_eq, n_cl, n_in, n_rem, n_mlt, n_mle, n_ltm, n_lem, n_eqm, n_meq, n_bit, n_shl, n_b0, n_b1, n_sub, n_inT, nT, nF, lT, lF, eT, eF, not_false_eq_true, not_true_eq_false, sI_at, sI_c, sI_j, aI_at, aI_c, sL_at, sL_c, sL_j, true_and, and_true, not_true_eq_false, not_false_eq_true, forall_const, true_implies, false_implies, implies_true, if_true, if_false, ite_true, ite_false, Bool.not_eq_true, Bool.not_eq_false, Bool.true_eq_false, Bool.false_eq_true, false_and, and_false, or_true, true_or, false_or, or_false, q2, z]
    exact hK
  · have e := q4.1
    simp (disch := first | omega | assumption) only [n_lit, n_gLt, n_gLe, n_gEq, n_gEq2, n_gLe2, n_gLt2, n_m1, n_add, n_mul, n_lt, n_le, n_eq, n_cl, n_in, n_rem, n_mlt, n_mle, n_ltm, n_lem, n_eqm, n_meq, n_bit, n_shl, n_b0, n_b1, n_sub, n_inT, nT, nF, lT, lF, eT, eF, not_false_eq_true, not_true_eq_false, sI_at, sI_c, sI_j, aI_at, aI_c, sL_at, sL_c, sL_j, true_and, and_true, not_true_eq_false, not_false_eq_true, forall_const, true_implies, false_implies, implies_true, if_true, if_false, ite_true, ite_false, Bool.not_eq_true, Bool.not_eq_false, Bool.true_eq_false, Bool.false_eq_true, false_and, and_false, or_true, true_or, false_or, or_false, q3, e]
    exact hK
theorem cm_actOf {k q : Nat} {K : Int32 → Bool → MI → ML → Prop} (h : WM v t x o w I L) (hk : k < t.n) (hq : q < 4) (hK : K (if q = 0 then nI (t.so k) else if q = 1 then nI (t.a k) else if q = 2 then nI (t.b k) else t.ci k) b I L) : CI m_M_actOf [vr 22 186, vi (nI k), vi (nI q)] b I L K := by
  obtain ⟨⟨-, -, -, okt, -⟩, -, a5, -, -⟩ := h
  have := okt.1
  rcases a5 with ⟨q1, q2⟩ | ⟨u, q1, q2, q3, q4⟩
  · omega
  · obtain ⟨e0, e1, e2, e3⟩ := q4.2 k hk
    refine v_M_actOf_0 ?_
    rcases (by omega : q = 0 ∨ q = 1 ∨ q = 2 ∨ q = 3) with rfl | rfl | rfl | rfl
    · simp (disch := first | omega | assumption) only [n_lit, n_gLt, n_gLe, n_gEq, n_gEq2, n_gLe2, n_gLt2, n_m1, n_add, n_mul, n_lt, n_le, n_eq, n_cl, n_in, n_rem, n_mlt, n_mle, n_ltm, n_lem, n_eqm, n_meq, n_bit, n_shl, n_b0, n_b1, n_sub, n_inT, nT, nF, lT, lF, eT, eF, not_false_eq_true, not_true_eq_false, sI_at, sI_c, sI_j, aI_at, aI_c, sL_at, sL_c, sL_j, true_and, and_true, not_true_eq_false, not_false_eq_true, forall_const, true_implies, false_implies, implies_true, if_true, if_false, ite_true, ite_false, Bool.not_eq_true, Bool.not_eq_false, Bool.true_eq_false, Bool.false_eq_true, false_and, and_false, or_true, true_or, false_or, or_false, q3, Nat.add_zero, e0]
      exact hK
    · simp (disch := first | omega | assumption) only [n_lit, n_gLt, n_gLe, n_gEq, n_gEq2, n_gLe2, n_gLt2, n_m1, n_add, n_mul, n_lt, n_le, n_eq, n_cl, n_in, n_rem, n_mlt, n_mle, n_ltm, n_lem, n_eqm, n_meq, n_bit, n_shl, n_b0, n_b1, n_sub, n_inT, nT, nF, lT, lF, eT, eF, not_false_eq_true, not_true_eq_false, sI_at, sI_c, sI_j, aI_at, aI_c, sL_at, sL_c, sL_j, true_and, and_true, not_true_eq_false, not_false_eq_true, forall_const, true_implies, false_implies, implies_true, if_true, if_false, ite_true, ite_false, Bool.not_eq_true, Bool.not_eq_false, Bool.true_eq_false, Bool.false_eq_true, false_and, and_false, or_true, true_or, false_or, or_false, q3, e1]
      exact hK
    · simp (disch := first | omega | assumption) only [n_lit, n_gLt, n_gLe, n_gEq, n_gEq2, n_gLe2, n_gLt2, n_m1, n_add, n_mul, n_lt, n_le, n_eq, n_cl, n_in, n_rem, n_mlt, n_mle, n_ltm, n_lem, n_eqm, n_meq, n_bit, n_shl, n_b0, n_b1, n_sub, n_inT, nT, nF, lT, lF, eT, eF, not_false_eq_true, not_true_eq_false, sI_at, sI_c, sI_j, aI_at, aI_c, sL_at, sL_c, sL_j, true_and, and_true, not_true_eq_false, not_false_eq_true, forall_const, true_implies, false_implies, implies_true, if_true, if_false, ite_true, ite_false, Bool.not_eq_true, Bool.not_eq_false, Bool.true_eq_false, Bool.false_eq_true, false_and, and_false, or_true, true_or, false_or, or_false, q3, e2]
      exact hK
    · simp (disch := first | omega | assumption) only [n_lit, n_gLt, n_gLe, n_gEq, n_gEq2, n_gLe2, n_gLt2, n_m1, n_add, n_mul, n_lt, n_le, n_eq, n_cl, n_in, n_rem, n_mlt, n_mle, n_ltm, n_lem, n_eqm, n_meq, n_bit, n_shl, n_b0, n_b1, n_sub, n_inT, nT, nF, lT, lF, eT, eF, not_false_eq_true, not_true_eq_false, sI_at, sI_c, sI_j, aI_at, aI_c, sL_at, sL_c, sL_j, true_and, and_true, not_true_eq_false, not_false_eq_true, forall_const, true_implies, false_implies, implies_true, if_true, if_false, ite_true, ite_false, Bool.not_eq_true, Bool.not_eq_false, Bool.true_eq_false, Bool.false_eq_true, false_and, and_false, or_true, true_or, false_or, or_false, q3, e3]
      exact hK
theorem cm_kindOf {p : Nat} {K : Int32 → Bool → MI → ML → Prop} (h : WM v t x o w I L) (hp : p < 16) (hK : K (nI (w.v.kd p)) b I L) : CI m_M_kindOf [vr 22 186, vi (nI p)] b I L K := by
  obtain ⟨⟨-, okw, -, -, -⟩, ⟨a2, a3, a4⟩, -, -, a7⟩ := h
  obtain ⟨e0, e1⟩ := a4.2.1 p hp
  have hk := (okw.2.2.2.2.2.1 p hp).1
  refine v_M_kindOf_0 ?_
  rcases a7.2.2.1 p hp with ⟨q1, q2⟩ | ⟨q1, q2⟩
  · simp (disch := first | omega | assumption) only [n_lit, n_gLt, n_gLe, n_gEq, n_gEq2, n_gLe2, n_gLt2, n_m1, n_add, n_mul, n_lt, n_le, n_eq, n_cl, n_in, n_rem, n_mlt, n_mle, n_ltm, n_lem, n_eqm, n_meq, n_bit, n_shl, n_b0, n_b1, n_sub, n_inT, nT, nF, lT, lF, eT, eF, not_false_eq_true, not_true_eq_false, sI_at, sI_c, sI_j, aI_at, aI_c, sL_at, sL_c, sL_j, true_and, and_true, not_true_eq_false, not_false_eq_true, forall_const, true_implies, false_implies, implies_true, if_true, if_false, ite_true, ite_false, Bool.not_eq_true, Bool.not_eq_false, Bool.true_eq_false, Bool.false_eq_true, false_and, and_false, or_true, true_or, false_or, or_false, q1, q2]
    exact hK
  · rw [q2] at hK
    by_cases c : nI p = I 186 17
    · have q3 : I 186 18 < nI 0 := q1.elim (fun z => absurd c z) id
      simp (disch := first | omega | assumption) only [n_lit, n_gLt, n_gLe, n_gEq, n_gEq2, n_gLe2, n_gLt2, n_m1, n_add, n_mul, n_lt, n_le, n_eq, n_cl, n_in, n_rem, n_mlt, n_mle, n_ltm, n_lem, n_eqm, n_meq, n_bit, n_shl, n_b0, n_b1, n_sub, n_inT, nT, nF, lT, lF, eT, eF, not_false_eq_true, not_true_eq_false, sI_at, sI_c, sI_j, aI_at, aI_c, sL_at, sL_c, sL_j, true_and, and_true, not_true_eq_false, not_false_eq_true, forall_const, true_implies, false_implies, implies_true, if_true, if_false, ite_true, ite_false, Bool.not_eq_true, Bool.not_eq_false, Bool.true_eq_false, Bool.false_eq_true, false_and, and_false, or_true, true_or, false_or, or_false, ← c, a3, e0]
      exact hK
    · simp (disch := first | omega | assumption) only [n_lit, n_gLt, n_gLe, n_gEq, n_gEq2, n_gLe2, n_gLt2, n_m1, n_add, n_mul, n_lt, n_le, n_eq, n_cl, n_in, n_rem, n_mlt, n_mle, n_ltm, n_lem, n_eqm, n_meq, n_bit, n_shl, n_b0, n_b1, n_sub, n_inT, nT, nF, lT, lF, eT, eF, not_false_eq_true, not_true_eq_false, sI_at, sI_c, sI_j, aI_at, aI_c, sL_at, sL_c, sL_j, true_and, and_true, not_true_eq_false, not_false_eq_true, forall_const, true_implies, false_implies, implies_true, if_true, if_false, ite_true, ite_false, Bool.not_eq_true, Bool.not_eq_false, Bool.true_eq_false, Bool.false_eq_true, false_and, and_false, or_true, true_or, false_or, or_false, c, a3, e0]
      exact hK
theorem cm_doubtOf {p : Nat} {K : Int32 → Bool → MI → ML → Prop} (h : WM v t x o w I L) (hp : p < 16) (hK : K (nI (w.v.db p)) b I L) : CI m_M_doubtOf [vr 22 186, vi (nI p)] b I L K := by
  obtain ⟨⟨-, okw, -, -, -⟩, ⟨a2, a3, a4⟩, -, -, a7⟩ := h
  obtain ⟨e0, e1⟩ := a4.2.1 p hp
  have hk := (okw.2.2.2.2.2.1 p hp).2.2
  refine v_M_doubtOf_0 ?_
  rcases a7.2.2.2.1 p hp with ⟨q1, q2⟩ | ⟨q1, q2⟩
  · simp (disch := first | omega | assumption) only [n_lit, n_gLt, n_gLe, n_gEq, n_gEq2, n_gLe2, n_gLt2, n_m1, n_add, n_mul, n_lt, n_le, n_eq, n_cl, n_in, n_rem, n_mlt, n_mle, n_ltm, n_lem, n_eqm, n_meq, n_bit, n_shl, n_b0, n_b1, n_sub, n_inT, nT, nF, lT, lF, eT, eF, not_false_eq_true, not_true_eq_false, sI_at, sI_c, sI_j, aI_at, aI_c, sL_at, sL_c, sL_j, true_and, and_true, not_true_eq_false, not_false_eq_true, forall_const, true_implies, false_implies, implies_true, if_true, if_false, ite_true, ite_false, Bool.not_eq_true, Bool.not_eq_false, Bool.true_eq_false, Bool.false_eq_true, false_and, and_false, or_true, true_or, false_or, or_false, q1, q2]
    exact hK
  · rw [q2] at hK
    by_cases c : nI p = I 186 17
    · have q3 : I 186 19 < nI 0 := q1.elim (fun z => absurd c z) id
      simp (disch := first | omega | assumption) only [n_lit, n_gLt, n_gLe, n_gEq, n_gEq2, n_gLe2, n_gLt2, n_m1, n_add, n_mul, n_lt, n_le, n_eq, n_cl, n_in, n_rem, n_mlt, n_mle, n_ltm, n_lem, n_eqm, n_meq, n_bit, n_shl, n_b0, n_b1, n_sub, n_inT, nT, nF, lT, lF, eT, eF, not_false_eq_true, not_true_eq_false, sI_at, sI_c, sI_j, aI_at, aI_c, sL_at, sL_c, sL_j, true_and, and_true, not_true_eq_false, not_false_eq_true, forall_const, true_implies, false_implies, implies_true, if_true, if_false, ite_true, ite_false, Bool.not_eq_true, Bool.not_eq_false, Bool.true_eq_false, Bool.false_eq_true, false_and, and_false, or_true, true_or, false_or, or_false, ← c, a3, e1]
      exact hK
    · simp (disch := first | omega | assumption) only [n_lit, n_gLt, n_gLe, n_gEq, n_gEq2, n_gLe2, n_gLt2, n_m1, n_add, n_mul, n_lt, n_le, n_eq, n_cl, n_in, n_rem, n_mlt, n_mle, n_ltm, n_lem, n_eqm, n_meq, n_bit, n_shl, n_b0, n_b1, n_sub, n_inT, nT, nF, lT, lF, eT, eF, not_false_eq_true, not_true_eq_false, sI_at, sI_c, sI_j, aI_at, aI_c, sL_at, sL_c, sL_j, true_and, and_true, not_true_eq_false, not_false_eq_true, forall_const, true_implies, false_implies, implies_true, if_true, if_false, ite_true, ite_false, Bool.not_eq_true, Bool.not_eq_false, Bool.true_eq_false, Bool.false_eq_true, false_and, and_false, or_true, true_or, false_or, or_false, c, a3, e1]
      exact hK
theorem l_cmp1 {y : Int64} {p : Nat} (h : p < 64) : (lg_cmp ((y >>> ((nI p).toInt64 &&& 63)) &&& 1) 1 = nI 0) = (bl y p = true) := by
  rw [l_bitx h]
  cases bl y p <;> decide
theorem cm_isShut {k d : Nat} {K : Int32 → Bool → MI → ML → Prop} (h : WM v t x o w I L) (hk : k < v.m) (hd : d ≤ 200) (hK : K (nI (!w.op d k).toNat) b I L) : CI m_M_isShut [vr 22 186, vi (nI k), vi (nI d)] b I L K := by
  have H := h
  obtain ⟨⟨ew, okw, okv, okt, okx⟩, -, -, ⟨-, -, -, -, -, w6, w7, w8⟩, -⟩ := h
  have hm := okv.2.1
  have htn := okt.1
  have hop : w.op d k = !(x.dd k || (t.wall d k && decide (k < v.m)) || (x.ba k && decide (x.bf ≤ d))) := by
    rw [ew]; rfl
  rw [hop, Bool.not_not, decide_eq_true hk, Bool.and_true] at hK
  have w6 := w6 k (by omega)
  have w7 := w7 k (by omega)
  -- the walls
  have loop : ∀ n i, i + n = t.n → ∀ c : Bool, (∀ r : Bool, (r = true ↔ c = true ∨ ∃ j, i ≤ j ∧ j < t.n ∧ (t.so j = 2 ∧ t.a j = k ∧ t.b j ≤ d ∧ d ≤ t.c j)) → K (nI r.toNat) b I L) → SW m_M_isShut 41 [vr 22 186, vi (nI k), vi (nI d), vi (nI c.toNat), vi (nI i)] [] b I L (kI K) := by
    intro n
    induction n with
    | zero =>
      intro i hi c kk
      obtain rfl : i = t.n := by omega
      have := kk c ⟨Or.inl, fun q => q.elim id (fun ⟨j, j1, j2, _⟩ => by omega)⟩
      refine v_M_isShut_41 (cm_acts H ?_)
      cases c
      · simp (disch := first | omega | assumption) only [n_lit, n_gLt, n_gLe, n_gEq, n_gEq2, n_gLe2, n_gLt2, n_m1, n_add, n_mul, n_lt, n_le, n_eq, n_cl, n_in, n_rem, n_mlt, n_mle, n_ltm, n_lem, n_eqm, n_meq, n_bit, n_shl, n_b0, n_b1, n_sub, n_inT, nT, nF, lT, lF, eT, eF, not_false_eq_true, not_true_eq_false, sI_at, sI_c, sI_j, aI_at, aI_c, sL_at, sL_c, sL_j, true_and, and_true, not_true_eq_false, not_false_eq_true, forall_const, true_implies, false_implies, implies_true, if_true, if_false, ite_true, ite_false, Bool.not_eq_true, Bool.not_eq_false, Bool.true_eq_false, Bool.false_eq_true, false_and, and_false, or_true, true_or, false_or, or_false, Bool.toNat_false]
        exact this
      · simp (disch := first | omega | assumption) only [n_lit, n_gLt, n_gLe, n_gEq, n_gEq2, n_gLe2, n_gLt2, n_m1, n_add, n_mul, n_lt, n_le, n_eq, n_cl, n_in, n_rem, n_mlt, n_mle, n_ltm, n_lem, n_eqm, n_meq, n_bit, n_shl, n_b0, n_b1, n_sub, n_inT, nT, nF, lT, lF, eT, eF, not_false_eq_true, not_true_eq_false, sI_at, sI_c, sI_j, aI_at, aI_c, sL_at, sL_c, sL_j, true_and, and_true, not_true_eq_false, not_false_eq_true, forall_const, true_implies, false_implies, implies_true, if_true, if_false, ite_true, ite_false, Bool.not_eq_true, Bool.not_eq_false, Bool.true_eq_false, Bool.false_eq_true, false_and, and_false, or_true, true_or, false_or, or_false, Bool.toNat_true]
        exact this
    | succ n ih =>
      intro i hi c kk
      obtain ⟨o1, o2, o3⟩ := okt.2 i (by omega)
      refine v_M_isShut_41 (cm_acts H ?_)
      cases c with
      | true =>
        have nxt := ih (i + 1) (by omega) true (fun r hr => kk r (by rw [hr]; exact ⟨fun _ => Or.inl rfl, fun _ => Or.inl rfl⟩))
        simp (disch := first | omega | assumption) only [n_lit, n_gLt, n_gLe, n_gEq, n_gEq2, n_gLe2, n_gLt2, n_m1, n_add, n_mul, n_lt, n_le, n_eq, n_cl, n_in, n_rem, n_mlt, n_mle, n_ltm, n_lem, n_eqm, n_meq, n_bit, n_shl, n_b0, n_b1, n_sub, n_inT, nT, nF, lT, lF, eT, eF, not_false_eq_true, not_true_eq_false, sI_at, sI_c, sI_j, aI_at, aI_c, sL_at, sL_c, sL_j, true_and, and_true, not_true_eq_false, not_false_eq_true, forall_const, true_implies, false_implies, implies_true, if_true, if_false, ite_true, ite_false, Bool.not_eq_true, Bool.not_eq_false, Bool.true_eq_false, Bool.false_eq_true, false_and, and_false, or_true, true_or, false_or, or_false, Bool.toNat_true]
        exact nxt
      | false =>
        have nxt : ∀ c : Bool, (c = true ↔ (t.so i = 2 ∧ t.a i = k ∧ t.b i ≤ d ∧ d ≤ t.c i)) → SW m_M_isShut 41 [vr 22 186, vi (nI k), vi (nI d), vi (nI c.toNat), vi (nI (i + 1))] [] b I L (kI K) := fun c hc => ih (i + 1) (by omega) c (fun r hr => kk r (by
          rw [hr, hc]
          constructor
          · rintro (q | ⟨j, j1, j2, q⟩)
            · exact Or.inr ⟨i, Nat.le_refl _, by omega, q⟩
            · exact Or.inr ⟨j, by omega, j2, q⟩
          · rintro (q | ⟨j, j1, j2, q⟩)
            · cases q
            · by_cases e : j = i
              · subst e; exact Or.inl q
              · exact Or.inr ⟨j, by omega, j2, q⟩))
        simp (disch := first | omega | assumption) only [n_lit, n_gLt, n_gLe, n_gEq, n_gEq2, n_gLe2, n_gLt2, n_m1, n_add, n_mul, n_lt, n_le, n_eq, n_cl, n_in, n_rem, n_mlt, n_mle, n_ltm, n_lem, n_eqm, n_meq, n_bit, n_shl, n_b0, n_b1, n_sub, n_inT, nT, nF, lT, lF, eT, eF, not_false_eq_true, not_true_eq_false, sI_at, sI_c, sI_j, aI_at, aI_c, sL_at, sL_c, sL_j, true_and, and_true, not_true_eq_false, not_false_eq_true, forall_const, true_implies, false_implies, implies_true, if_true, if_false, ite_true, ite_false, Bool.not_eq_true, Bool.not_eq_false, Bool.true_eq_false, Bool.false_eq_true, false_and, and_false, or_true, true_or, false_or, or_false, Bool.toNat_false]
        refine cm_actOf (q := 0) H (by omega) (by decide) ?_
        by_cases c0 : t.so i = 2
        · obtain ⟨w1, w2, w3⟩ := o3 c0
          simp (disch := first | omega | assumption) only [n_lit, n_gLt, n_gLe, n_gEq, n_gEq2, n_gLe2, n_gLt2, n_m1, n_add, n_mul, n_lt, n_le, n_eq, n_cl, n_in, n_rem, n_mlt, n_mle, n_ltm, n_lem, n_eqm, n_meq, n_bit, n_shl, n_b0, n_b1, n_sub, n_inT, nT, nF, lT, lF, eT, eF, not_false_eq_true, not_true_eq_false, sI_at, sI_c, sI_j, aI_at, aI_c, sL_at, sL_c, sL_j, true_and, and_true, not_true_eq_false, not_false_eq_true, forall_const, true_implies, false_implies, implies_true, if_true, if_false, ite_true, ite_false, Bool.not_eq_true, Bool.not_eq_false, Bool.true_eq_false, Bool.false_eq_true, false_and, and_false, or_true, true_or, false_or, or_false, c0]
          refine cm_actOf (q := 1) H (by omega) (by decide) ?_
          by_cases c1 : t.a i = k
          · simp (disch := first | omega | assumption) only [n_lit, n_gLt, n_gLe, n_gEq, n_gEq2, n_gLe2, n_gLt2, n_m1, n_add, n_mul, n_lt, n_le, n_eq, n_cl, n_in, n_rem, n_mlt, n_mle, n_ltm, n_lem, n_eqm, n_meq, n_bit, n_shl, n_b0, n_b1, n_sub, n_inT, nT, nF, lT, lF, eT, eF, not_false_eq_true, not_true_eq_false, sI_at, sI_c, sI_j, aI_at, aI_c, sL_at, sL_c, sL_j, true_and, and_true, not_true_eq_false, not_false_eq_true, forall_const, true_implies, false_implies, implies_true, if_true, if_false, ite_true, ite_false, Bool.not_eq_true, Bool.not_eq_false, Bool.true_eq_false, Bool.false_eq_true, false_and, and_false, or_true, true_or, false_or, or_false, c1]
            refine cm_actOf (q := 2) H (by omega) (by decide) ?_
            refine cm_actOf (q := 3) H (by omega) (by decide) ?_
            unfold Tel.ci
            rw [if_pos c0]
            refine v_M_isIn_0 ?_
            by_cases c2 : d < t.b i
            · have g := nxt false ⟨fun q => absurd q (by decide), fun q => by omega⟩
              simp (disch := first | omega | assumption) only [n_lit, n_gLt, n_gLe, n_gEq, n_gEq2, n_gLe2, n_gLt2, n_m1, n_add, n_mul, n_lt, n_le, n_eq, n_cl, n_in, n_rem, n_mlt, n_mle, n_ltm, n_lem, n_eqm, n_meq, n_bit, n_shl, n_b0, n_b1, n_sub, n_inT, nT, nF, lT, lF, eT, eF, not_false_eq_true, not_true_eq_false, sI_at, sI_c, sI_j, aI_at, aI_c, sL_at, sL_c, sL_j, true_and, and_true, not_true_eq_false, not_false_eq_true, forall_const, true_implies, false_implies, implies_true, if_true, if_false, ite_true, ite_false, Bool.not_eq_true, Bool.not_eq_false, Bool.true_eq_false, Bool.false_eq_true, false_and, and_false, or_true, true_or, false_or, or_false]
              exact g
            · by_cases c3 : t.c i < d
              · have g := nxt false ⟨fun q => absurd q (by decide), fun q => by omega⟩
                simp (disch := first | omega | assumption) only [n_lit, n_gLt, n_gLe, n_gEq, n_gEq2, n_gLe2, n_gLt2, n_m1, n_add, n_mul, n_lt, n_le, n_eq, n_cl, n_in, n_rem, n_mlt, n_mle, n_ltm, n_lem, n_eqm, n_meq, n_bit, n_shl, n_b0, n_b1, n_sub, n_inT, nT, nF, lT, lF, eT, eF, not_false_eq_true, not_true_eq_false, sI_at, sI_c, sI_j, aI_at, aI_c, sL_at, sL_c, sL_j, true_and, and_true, not_true_eq_false, not_false_eq_true, forall_const, true_implies, false_implies, implies_true, if_true, if_false, ite_true, ite_false, Bool.not_eq_true, Bool.not_eq_false, Bool.true_eq_false, Bool.false_eq_true, false_and, and_false, or_true, true_or, false_or, or_false]
                exact g
              · have g := nxt true ⟨fun _ => ⟨c0, c1, by omega, by omega⟩, fun _ => rfl⟩
                simp (disch := first | omega | assumption) only [n_lit, n_gLt, n_gLe, n_gEq, n_gEq2, n_gLe2, n_gLt2, n_m1, n_add, n_mul, n_lt, n_le, n_eq, n_cl, n_in, n_rem, n_mlt, n_mle, n_ltm, n_lem, n_eqm, n_meq, n_bit, n_shl, n_b0, n_b1, n_sub, n_inT, nT, nF, lT, lF, eT, eF, not_false_eq_true, not_true_eq_false, sI_at, sI_c, sI_j, aI_at, aI_c, sL_at, sL_c, sL_j, true_and, and_true, not_true_eq_false, not_false_eq_true, forall_const, true_implies, false_implies, implies_true, if_true, if_false, ite_true, ite_false, Bool.not_eq_true, Bool.not_eq_false, Bool.true_eq_false, Bool.false_eq_true, false_and, and_false, or_true, true_or, false_or, or_false]
                exact g
          · have g := nxt false ⟨fun q => absurd q (by decide), fun q => absurd q.2.1 c1⟩
            simp (disch := first | omega | assumption) only [n_lit, n_gLt, n_gLe, n_gEq, n_gEq2, n_gLe2, n_gLt2, n_m1, n_add, n_mul, n_lt, n_le, n_eq, n_cl, n_in, n_rem, n_mlt, n_mle, n_ltm, n_lem, n_eqm, n_meq, n_bit, n_shl, n_b0, n_b1, n_sub, n_inT, nT, nF, lT, lF, eT, eF, not_false_eq_true, not_true_eq_false, sI_at, sI_c, sI_j, aI_at, aI_c, sL_at, sL_c, sL_j, true_and, and_true, not_true_eq_false, not_false_eq_true, forall_const, true_implies, false_implies, implies_true, if_true, if_false, ite_true, ite_false, Bool.not_eq_true, Bool.not_eq_false, Bool.true_eq_false, Bool.false_eq_true, false_and, and_false, or_true, true_or, false_or, or_false]
            exact g
        · have g := nxt false ⟨fun q => absurd q (by decide), fun q => absurd q.1 c0⟩
          simp (disch := first | omega | assumption) only [n_lit, n_gLt, n_gLe, n_gEq, n_gEq2, n_gLe2, n_gLt2, n_m1, n_add, n_mul, n_lt, n_le, n_eq, n_cl, n_in, n_rem, n_mlt, n_mle, n_ltm, n_lem, n_eqm, n_meq, n_bit, n_shl, n_b0, n_b1, n_sub, n_inT, nT, nF, lT, lF, eT, eF, not_false_eq_true, not_true_eq_false, sI_at, sI_c, sI_j, aI_at, aI_c, sL_at, sL_c, sL_j, true_and, and_true, not_true_eq_false, not_false_eq_true, forall_const, true_implies, false_implies, implies_true, if_true, if_false, ite_true, ite_false, Bool.not_eq_true, Bool.not_eq_false, Bool.true_eq_false, Bool.false_eq_true, false_and, and_false, or_true, true_or, false_or, or_false]
          exact g
  have hwall : t.wall d k = true ↔ ∃ j, 0 ≤ j ∧ j < t.n ∧ (t.so j = 2 ∧ t.a j = k ∧ t.b j ≤ d ∧ d ≤ t.c j) := by
    unfold Tel.wall
    rw [anyN_iff]
    exact ⟨fun ⟨j, j1, j2⟩ => ⟨j, Nat.zero_le _, j1, of_decide_eq_true j2⟩, fun ⟨j, _, j1, j2⟩ => ⟨j, j1, decide_eq_true j2⟩⟩
  have rest : x.dd k = false → (x.ba k && decide (x.bf ≤ d)) = false → SW m_M_isShut 41 [vr 22 186, vi (nI k), vi (nI d), vi (nI 0), vi (nI 0)] [] b I L (kI K) := by
    intro h1 h2
    refine loop t.n 0 (by omega) false (fun r hr => ?_)
    have : r = (x.dd k || t.wall d k || (x.ba k && decide (x.bf ≤ d))) := by
      rw [h1, h2, Bool.or_false, Bool.false_or]
      cases hw : t.wall d k with
      | true => exact hr.mpr (Or.inr (hwall.mp hw))
      | false =>
        refine Bool.eq_false_iff.mpr (fun q => ?_)
        rcases hr.mp q with q | q
        · cases q
        · rw [hwall.mpr q] at hw
          cases hw
    rw [this]
    exact hK
  have c20 := l_cmp1 (y := L 186 20) (p := k) (by omega)
  have c21 := l_cmp1 (y := L 186 21) (p := k) (by omega)
  refine v_M_isShut_0 ?_
  cases hdd : x.dd k with
  | true =>
    rw [hdd, Bool.true_or, Bool.true_or] at hK
    rw [w6, hdd] at c20
    simp (disch := first | omega | assumption) only [n_lit, n_gLt, n_gLe, n_gEq, n_gEq2, n_gLe2, n_gLt2, n_m1, n_add, n_mul, n_lt, n_le, n_eq, n_cl, n_in, n_rem, n_mlt, n_mle, n_ltm, n_lem, n_eqm, n_meq, n_bit, n_shl, n_b0, n_b1, n_sub, n_inT, nT, nF, lT, lF, eT, eF, not_false_eq_true, not_true_eq_false, sI_at, sI_c, sI_j, aI_at, aI_c, sL_at, sL_c, sL_j, true_and, and_true, not_true_eq_false, not_false_eq_true, forall_const, true_implies, false_implies, implies_true, if_true, if_false, ite_true, ite_false, Bool.not_eq_true, Bool.not_eq_false, Bool.true_eq_false, Bool.false_eq_true, false_and, and_false, or_true, true_or, false_or, or_false, c20]
    exact hK
  | false =>
    rw [w6, hdd] at c20
    cases hba : x.ba k with
    | false =>
      have g := rest hdd (by rw [hba]; rfl)
      rw [w7, hba] at c21
      simp (disch := first | omega | assumption) only [n_lit, n_gLt, n_gLe, n_gEq, n_gEq2, n_gLe2, n_gLt2, n_m1, n_add, n_mul, n_lt, n_le, n_eq, n_cl, n_in, n_rem, n_mlt, n_mle, n_ltm, n_lem, n_eqm, n_meq, n_bit, n_shl, n_b0, n_b1, n_sub, n_inT, nT, nF, lT, lF, eT, eF, not_false_eq_true, not_true_eq_false, sI_at, sI_c, sI_j, aI_at, aI_c, sL_at, sL_c, sL_j, true_and, and_true, not_true_eq_false, not_false_eq_true, forall_const, true_implies, false_implies, implies_true, if_true, if_false, ite_true, ite_false, Bool.not_eq_true, Bool.not_eq_false, Bool.true_eq_false, Bool.false_eq_true, false_and, and_false, or_true, true_or, false_or, or_false, c20, c21]
      exact g
    | true =>
      have e22 := w8 (anyN_iff.mpr ⟨k, by omega, hba⟩)
      have hbf := okx.2.1
      rw [w7, hba] at c21
      by_cases c : d < x.bf
      · have g := rest hdd (by rw [hba, decide_eq_false (by omega)]; rfl)
        simp (disch := first | omega | assumption) only [n_lit, n_gLt, n_gLe, n_gEq, n_gEq2, n_gLe2, n_gLt2, n_m1, n_add, n_mul, n_lt, n_le, n_eq, n_cl, n_in, n_rem, n_mlt, n_mle, n_ltm, n_lem, n_eqm, n_meq, n_bit, n_shl, n_b0, n_b1, n_sub, n_inT, nT, nF, lT, lF, eT, eF, not_false_eq_true, not_true_eq_false, sI_at, sI_c, sI_j, aI_at, aI_c, sL_at, sL_c, sL_j, true_and, and_true, not_true_eq_false, not_false_eq_true, forall_const, true_implies, false_implies, implies_true, if_true, if_false, ite_true, ite_false, Bool.not_eq_true, Bool.not_eq_false, Bool.true_eq_false, Bool.false_eq_true, false_and, and_false, or_true, true_or, false_or, or_false, c20, c21, e22]
        exact g
      · rw [hba, decide_eq_true (by omega : x.bf ≤ d), Bool.true_and, Bool.or_true] at hK
        simp (disch := first | omega | assumption) only [n_lit, n_gLt, n_gLe, n_gEq, n_gEq2, n_gLe2, n_gLt2, n_m1, n_add, n_mul, n_lt, n_le, n_eq, n_cl, n_in, n_rem, n_mlt, n_mle, n_ltm, n_lem, n_eqm, n_meq, n_bit, n_shl, n_b0, n_b1, n_sub, n_inT, nT, nF, lT, lF, eT, eF, not_false_eq_true, not_true_eq_false, sI_at, sI_c, sI_j, aI_at, aI_c, sL_at, sL_c, sL_j, true_and, and_true, not_true_eq_false, not_false_eq_true, forall_const, true_implies, false_implies, implies_true, if_true, if_false, ite_true, ite_false, Bool.not_eq_true, Bool.not_eq_false, Bool.true_eq_false, Bool.false_eq_true, false_and, and_false, or_true, true_or, false_or, or_false, c20, c21, e22]
        exact hK
end
