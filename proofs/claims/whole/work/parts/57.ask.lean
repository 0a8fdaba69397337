/-! QUESTIONS of a run: who is asked, of what; holders, held -/
def inR (a : Int32) (n : Nat) : Bool := decide (nI 0 ≤ a) && decide (a < nI n)
theorem inR_iff {a : Int32} {n : Nat} (hn : n ≤ 100000) : inR a n = true ↔ ∃ k, k < n ∧ a = nI k := by
  unfold inR
  rw [Bool.and_eq_true, decide_eq_true_iff, decide_eq_true_iff]
  constructor
  · rintro ⟨h1, h2⟩
    rcases n_sgn a with h | ⟨j, g, rfl⟩
    · exact absurd h1 (n_nat h 0 (by omega)).2.2.1
    · rw [n_lt g (by omega)] at h2
      exact ⟨j, h2, rfl⟩
  · rintro ⟨k, h1, rfl⟩
    rw [n_le (by omega) (by omega), n_lt (by omega) (by omega)]
    omega
theorem inR_out {a : Int32} {n : Nat} (hn : n ≤ 100000) (h : inR a n = false) : a < nI 0 ∨ ∃ j, n ≤ j ∧ j < 2147483648 ∧ a = nI j := by
  rcases n_sgn a with h1 | ⟨j, g, rfl⟩
  · exact Or.inl h1
  · refine Or.inr ⟨j, Nat.not_lt.mp fun q => ?_, g, rfl⟩
    rw [(inR_iff hn).mpr ⟨j, q, rfl⟩] at h
    cases h
def Bk.wd (B : Bk) (a1 a2 : Int32) : Wd := mkW (B.vl a1.toNatClampNeg) (B.vl a1.toNatClampNeg).m (B.tlOf a2) wi0
theorem c_onDay {a : Int32} {n : Nat} (hn : n ≤ 1000) {b : Bool} {I : MI} {L : ML} {K : Int32 → Bool → MI → ML → Prop} (hy : inR a (n + 1) = true → K (nI 1) b I L) (hf : inR a (n + 1) = false → K (nI 0) b I L) : CI m_S_onDay [vi a, vi (nI n)] b I L K := by
  refine v_S_onDay_0 ?_
  cases h : inR a (n + 1) with
  | true =>
    have g := hy h
    obtain ⟨k, hk, rfl⟩ := (inR_iff (by omega)).mp h
    simp (disch := first | omega | assumption) only [n_lit, n_gLt, n_gLe, n_gEq, n_gEq2, n_gLe2, n_gLt2, n_m1, n_add, n_mul, n_lt, n_le, n_eq, n_cl, n_in, n_rem, n_mlt, n_mle, n_ltm, n_lem, n_eqm, n_meq, n_bit, n_shl, n_b0, n_b1, n_sub, n_inT, nT, nF, lT, lF, eT, eF, not_false_eq_true, not_true_eq_false, sI_at, sI_c, sI_j, aI_at, aI_c, sL_at, sL_c, sL_j, true_and, and_true, not_true_eq_false, not_false_eq_true, forall_const, true_implies, false_implies, implies_true, if_true, if_false, ite_true, ite_false, Bool.not_eq_true, Bool.not_eq_false, Bool.true_eq_false, Bool.false_eq_true, false_and, and_false, or_true, true_or, false_or, or_false]
    exact g
  | false =>
    have g := hf h
    rcases inR_out (by omega) h with q | ⟨j, q1, q2, rfl⟩
    · simp (disch := first | omega | assumption) only [n_lit, n_gLt, n_gLe, n_gEq, n_gEq2, n_gLe2, n_gLt2, n_m1, n_add, n_mul, n_lt, n_le, n_eq, n_cl, n_in, n_rem, n_mlt, n_mle, n_ltm, n_lem, n_eqm, n_meq, n_bit, n_shl, n_b0, n_b1, n_sub, n_inT, nT, nF, lT, lF, eT, eF, not_false_eq_true, not_true_eq_false, sI_at, sI_c, sI_j, aI_at, aI_c, sL_at, sL_c, sL_j, true_and, and_true, not_true_eq_false, not_false_eq_true, forall_const, true_implies, false_implies, implies_true, if_true, if_false, ite_true, ite_false, Bool.not_eq_true, Bool.not_eq_false, Bool.true_eq_false, Bool.false_eq_true, false_and, and_false, or_true, true_or, false_or, or_false]
      exact g
    · simp (disch := first | omega | assumption) only [n_lit, n_gLt, n_gLe, n_gEq, n_gEq2, n_gLe2, n_gLt2, n_m1, n_add, n_mul, n_lt, n_le, n_eq, n_cl, n_in, n_rem, n_mlt, n_mle, n_ltm, n_lem, n_eqm, n_meq, n_bit, n_shl, n_b0, n_b1, n_sub, n_inT, nT, nF, lT, lF, eT, eF, not_false_eq_true, not_true_eq_false, sI_at, sI_c, sI_j, aI_at, aI_c, sL_at, sL_c, sL_j, true_and, and_true, not_true_eq_false, not_false_eq_true, forall_const, true_implies, false_implies, implies_true, if_true, if_false, ite_true, ite_false, Bool.not_eq_true, Bool.not_eq_false, Bool.true_eq_false, Bool.false_eq_true, false_and, and_false, or_true, true_or, false_or, or_false]
      exact g
theorem cm_isIn0 {a : Int32} {n : Nat} (hn : n ≤ 1000) {b : Bool} {I : MI} {L : ML} {K : Int32 → Bool → MI → ML → Prop} (hy : inR a (n + 1) = true → K (nI 1) b I L) (hf : inR a (n + 1) = false → K (nI 0) b I L) : CI m_M_isIn [vi a, vi (nI 0), vi (nI n)] b I L K := by
  refine v_M_isIn_0 ?_
  cases h : inR a (n + 1) with
  | true =>
    have g := hy h
    obtain ⟨k, hk, rfl⟩ := (inR_iff (by omega)).mp h
    simp (disch := first | omega | assumption) only [n_lit, n_gLt, n_gLe, n_gEq, n_gEq2, n_gLe2, n_gLt2, n_m1, n_add, n_mul, n_lt, n_le, n_eq, n_cl, n_in, n_rem, n_mlt, n_mle, n_ltm, n_lem, n_eqm, n_meq, n_bit, n_shl, n_b0, n_b1, n_sub, n_inT, nT, nF, lT, lF, eT, eF, not_false_eq_true, not_true_eq_false, sI_at, sI_c, sI_j, aI_at, aI_c, sL_at, sL_c, sL_j, true_and, and_true, not_true_eq_false, not_false_eq_true, forall_const, true_implies, false_implies, implies_true, if_true, if_false, ite_true, ite_false, Bool.not_eq_true, Bool.not_eq_false, Bool.true_eq_false, Bool.false_eq_true, false_and, and_false, or_true, true_or, false_or, or_false]
    exact g
  | false =>
    have g := hf h
    rcases inR_out (by omega) h with q | ⟨j, q1, q2, rfl⟩
    · simp (disch := first | omega | assumption) only [n_lit, n_gLt, n_gLe, n_gEq, n_gEq2, n_gLe2, n_gLt2, n_m1, n_add, n_mul, n_lt, n_le, n_eq, n_cl, n_in, n_rem, n_mlt, n_mle, n_ltm, n_lem, n_eqm, n_meq, n_bit, n_shl, n_b0, n_b1, n_sub, n_inT, nT, nF, lT, lF, eT, eF, not_false_eq_true, not_true_eq_false, sI_at, sI_c, sI_j, aI_at, aI_c, sL_at, sL_c, sL_j, true_and, and_true, not_true_eq_false, not_false_eq_true, forall_const, true_implies, false_implies, implies_true, if_true, if_false, ite_true, ite_false, Bool.not_eq_true, Bool.not_eq_false, Bool.true_eq_false, Bool.false_eq_true, false_and, and_false, or_true, true_or, false_or, or_false]
      exact g
    · simp (disch := first | omega | assumption) only [n_lit, n_gLt, n_gLe, n_gEq, n_gEq2, n_gLe2, n_gLt2, n_m1, n_add, n_mul, n_lt, n_le, n_eq, n_cl, n_in, n_rem, n_mlt, n_mle, n_ltm, n_lem, n_eqm, n_meq, n_bit, n_shl, n_b0, n_b1, n_sub, n_inT, nT, nF, lT, lF, eT, eF, not_false_eq_true, not_true_eq_false, sI_at, sI_c, sI_j, aI_at, aI_c, sL_at, sL_c, sL_j, true_and, and_true, not_true_eq_false, not_false_eq_true, forall_const, true_implies, false_implies, implies_true, if_true, if_false, ite_true, ite_false, Bool.not_eq_true, Bool.not_eq_false, Bool.true_eq_false, Bool.false_eq_true, false_and, and_false, or_true, true_or, false_or, or_false]
      exact g
/-- a village that is there, and somebody of it -/
def hpB (B : Bk) (a1 a2 : Int32) : Bool := inR a1 B.nv && inR a2 (B.vl a1.toNatClampNeg).n
theorem c_hasPerson {B : Bk} {a1 a2 : Int32} {b : Bool} {I : MI} {L : ML} {K : Int32 → Bool → MI → ML → Prop} (ok : B.ok) (hc : bkC 1 B I) (hy : hpB B a1 a2 = true → K (nI 1) b I L) (hf : hpB B a1 a2 = false → K (nI 0) b I L) : CI m_S_hasPerson [vr 21 0, vi a1, vi a2] b I L K := by
  have h1 := ok.1.1
  refine v_S_hasPerson_0 ?_
  cases h : inR a1 B.nv with
  | true =>
    obtain ⟨k, hk, rfl⟩ := (inR_iff (by omega)).mp h
    have hn := (ok.2.2.1 k hk).1.2
    have e1 : I (6 + 7 * k) 0 = nI (B.vl k).n := by
      have := (hc.2.2.1 k hk).1.1
      rw [show 1 + 5 + 7 * k = 6 + 7 * k by omega] at this
      exact this
    have ek : (nI k).toNatClampNeg = k := n_cl (by omega)
    unfold hpB at hy hf
    rw [h, Bool.true_and, ek] at hy hf
    refine c_hasV_y hc.1.1 (by omega) hk ?_
    simp (disch := first | omega | assumption) only [n_lit, n_gLt, n_gLe, n_gEq, n_gEq2, n_gLe2, n_gLt2, n_m1, n_add, n_mul, n_lt, n_le, n_eq, n_cl, n_in, n_rem, n_mlt, n_mle, n_ltm, n_lem, n_eqm, n_meq, n_bit, n_shl, n_b0, n_b1, n_sub, n_inT, nT, nF, lT, lF, eT, eF, not_false_eq_true, not_true_eq_false, sI_at, sI_c, sI_j, aI_at, aI_c, sL_at, sL_c, sL_j, true_and, and_true, not_true_eq_false, not_false_eq_true, forall_const, true_implies, false_implies, implies_true, if_true, if_false, ite_true, ite_false, Bool.not_eq_true, Bool.not_eq_false, Bool.true_eq_false, Bool.false_eq_true, false_and, and_false, or_true, true_or, false_or, or_false, Nat.reduceAdd]
    refine v_Village_has_0 ?_
    cases h2 : inR a2 (B.vl k).n with
    | true =>
      have g := hy h2
      obtain ⟨p, hp, rfl⟩ := (inR_iff (by omega)).mp h2
      simp (disch := first | omega | assumption) only [n_lit, n_gLt, n_gLe, n_gEq, n_gEq2, n_gLe2, n_gLt2, n_m1, n_add, n_mul, n_lt, n_le, n_eq, n_cl, n_in, n_rem, n_mlt, n_mle, n_ltm, n_lem, n_eqm, n_meq, n_bit, n_shl, n_b0, n_b1, n_sub, n_inT, nT, nF, lT, lF, eT, eF, not_false_eq_true, not_true_eq_false, sI_at, sI_c, sI_j, aI_at, aI_c, sL_at, sL_c, sL_j, true_and, and_true, not_true_eq_false, not_false_eq_true, forall_const, true_implies, false_implies, implies_true, if_true, if_false, ite_true, ite_false, Bool.not_eq_true, Bool.not_eq_false, Bool.true_eq_false, Bool.false_eq_true, false_and, and_false, or_true, true_or, false_or, or_false, e1]
      exact g
    | false =>
      have g := hf h2
      rcases inR_out (by omega) h2 with q | ⟨j, q1, q2, rfl⟩
      · simp (disch := first | omega | assumption) only [n_lit, n_gLt, n_gLe, n_gEq, n_gEq2, n_gLe2, n_gLt2, n_m1, n_add, n_mul, n_lt, n_le, n_eq, n_cl, n_in, n_rem, n_mlt, n_mle, n_ltm, n_lem, n_eqm, n_meq, n_bit, n_shl, n_b0, n_b1, n_sub, n_inT, nT, nF, lT, lF, eT, eF, not_false_eq_true, not_true_eq_false, sI_at, sI_c, sI_j, aI_at, aI_c, sL_at, sL_c, sL_j, true_and, and_true, not_true_eq_false, not_false_eq_true, forall_const, true_implies, false_implies, implies_true, if_true, if_false, ite_true, ite_false, Bool.not_eq_true, Bool.not_eq_false, Bool.true_eq_false, Bool.false_eq_true, false_and, and_false, or_true, true_or, false_or, or_false]
        exact g
      · simp (disch := first | omega | assumption) only [n_lit, n_gLt, n_gLe, n_gEq, n_gEq2, n_gLe2, n_gLt2, n_m1, n_add, n_mul, n_lt, n_le, n_eq, n_cl, n_in, n_rem, n_mlt, n_mle, n_ltm, n_lem, n_eqm, n_meq, n_bit, n_shl, n_b0, n_b1, n_sub, n_inT, nT, nF, lT, lF, eT, eF, not_false_eq_true, not_true_eq_false, sI_at, sI_c, sI_j, aI_at, aI_c, sL_at, sL_c, sL_j, true_and, and_true, not_true_eq_false, not_false_eq_true, forall_const, true_implies, false_implies, implies_true, if_true, if_false, ite_true, ite_false, Bool.not_eq_true, Bool.not_eq_false, Bool.true_eq_false, Bool.false_eq_true, false_and, and_false, or_true, true_or, false_or, or_false, e1]
        exact g
  | false =>
    have g := hf (by unfold hpB; rw [h, Bool.false_and])
    refine c_hasV_n hc.1.1 (by omega) (fun ⟨k, hk, e⟩ => by rw [(inR_iff (by omega)).mpr ⟨k, hk, e⟩] at h; cases h) ?_
    simp (disch := first | omega | assumption) only [n_lit, n_gLt, n_gLe, n_gEq, n_gEq2, n_gLe2, n_gLt2, n_m1, n_add, n_mul, n_lt, n_le, n_eq, n_cl, n_in, n_rem, n_mlt, n_mle, n_ltm, n_lem, n_eqm, n_meq, n_bit, n_shl, n_b0, n_b1, n_sub, n_inT, nT, nF, lT, lF, eT, eF, not_false_eq_true, not_true_eq_false, sI_at, sI_c, sI_j, aI_at, aI_c, sL_at, sL_c, sL_j, true_and, and_true, not_true_eq_false, not_false_eq_true, forall_const, true_implies, false_implies, implies_true, if_true, if_false, ite_true, ite_false, Bool.not_eq_true, Bool.not_eq_false, Bool.true_eq_false, Bool.false_eq_true, false_and, and_false, or_true, true_or, false_or, or_false]
    exact g
theorem cm_isPerson {v : Vil} {t : Tel} {x : Wi} {o : Nat} {w : Wd} {a : Int32} {b : Bool} {I : MI} {L : ML} {K : Int32 → Bool → MI → ML → Prop} (h : WM v t x o w I L) (hy : inR a w.v.n = true → K (nI 1) b I L) (hf : inR a w.v.n = false → K (nI 0) b I L) : CI m_M_isPerson [vr 22 186, vi a] b I L K := by
  have hn := h.1.2.1.1
  refine v_M_isPerson_0 (cm_people h ?_)
  simp (disch := first | omega | assumption) only [n_lit, n_gLt, n_gLe, n_gEq, n_gEq2, n_gLe2, n_gLt2, n_m1, n_add, n_mul, n_lt, n_le, n_eq, n_cl, n_in, n_rem, n_mlt, n_mle, n_ltm, n_lem, n_eqm, n_meq, n_bit, n_shl, n_b0, n_b1, n_sub, n_inT, nT, nF, lT, lF, eT, eF, not_false_eq_true, not_true_eq_false, sI_at, sI_c, sI_j, aI_at, aI_c, sL_at, sL_c, sL_j, true_and, and_true, not_true_eq_false, not_false_eq_true, forall_const, true_implies, false_implies, implies_true, if_true, if_false, ite_true, ite_false, Bool.not_eq_true, Bool.not_eq_false, Bool.true_eq_false, Bool.false_eq_true, false_and, and_false, or_true, true_or, false_or, or_false]
  have e : w.v.n = w.v.n - 1 + 1 := by omega
  refine cm_isIn0 (by omega) (fun q => ?_) (fun q => ?_)
  · rw [← e] at q
    have g := hy q
    simp (disch := first | omega | assumption) only [n_lit, n_gLt, n_gLe, n_gEq, n_gEq2, n_gLe2, n_gLt2, n_m1, n_add, n_mul, n_lt, n_le, n_eq, n_cl, n_in, n_rem, n_mlt, n_mle, n_ltm, n_lem, n_eqm, n_meq, n_bit, n_shl, n_b0, n_b1, n_sub, n_inT, nT, nF, lT, lF, eT, eF, not_false_eq_true, not_true_eq_false, sI_at, sI_c, sI_j, aI_at, aI_c, sL_at, sL_c, sL_j, true_and, and_true, not_true_eq_false, not_false_eq_true, forall_const, true_implies, false_implies, implies_true, if_true, if_false, ite_true, ite_false, Bool.not_eq_true, Bool.not_eq_false, Bool.true_eq_false, Bool.false_eq_true, false_and, and_false, or_true, true_or, false_or, or_false]
    exact g
  · rw [← e] at q
    have g := hf q
    simp (disch := first | omega | assumption) only [n_lit, n_gLt, n_gLe, n_gEq, n_gEq2, n_gLe2, n_gLt2, n_m1, n_add, n_mul, n_lt, n_le, n_eq, n_cl, n_in, n_rem, n_mlt, n_mle, n_ltm, n_lem, n_eqm, n_meq, n_bit, n_shl, n_b0, n_b1, n_sub, n_inT, nT, nF, lT, lF, eT, eF, not_false_eq_true, not_true_eq_false, sI_at, sI_c, sI_j, aI_at, aI_c, sL_at, sL_c, sL_j, true_and, and_true, not_true_eq_false, not_false_eq_true, forall_const, true_implies, false_implies, implies_true, if_true, if_false, ite_true, ite_false, Bool.not_eq_true, Bool.not_eq_false, Bool.true_eq_false, Bool.false_eq_true, false_and, and_false, or_true, true_or, false_or, or_false]
    exact g
theorem tk_in {B : Bk} {a1 a2 : Int32} (ok : B.ok) (h : tkB B a1 a2 = true) : ∃ k, k < B.nv ∧ a1 = nI k ∧ (nI k).toNatClampNeg = k ∧ (B.vl k).ok 40 ∧ (B.tlOf a2).ok := by
  obtain ⟨⟨k, hk, rfl⟩, h2⟩ := (tkB_iff ok).mp h
  have := ok.1.1
  exact ⟨k, hk, rfl, n_cl (by omega), ok.2.2.1 k hk, tlOf_ok ok h2⟩
theorem ok41 {v : Vil} (h : v.ok 40) : v.ok 41 := by
  obtain ⟨q1, q2, q3, q4, q5, q6, q7⟩ := h
  refine ⟨q1, by omega, q3, q4, q5, q6, fun t ht => ?_⟩
  obtain ⟨z1, z2, z3, z4⟩ := q7 t ht
  exact ⟨z1, z2, fun h => absurd h (by omega), z4⟩
theorem c_takeW {B : Bk} {a1 a2 : Int32} {b : Bool} {I : MI} {L : ML} {K : Int32 → Bool → MI → ML → Prop} (ok : B.ok) (hc : bkC 1 B I) (hy : tkB B a1 a2 = true → ∀ I' L', (∀ a, a < 154 ∨ 186 ≤ a → I' a = I a) → WL (B.wd a1 a2) I' L' → lifeP (B.vl a1.toNatClampNeg) (B.vl a1.toNatClampNeg).m (B.tlOf a2) wi0 I' L' → K (nI 1) b I' L') (hn : tkB B a1 a2 = false → K (nI 0) b I L) : CI m_S_take [vr 21 0, vi a1, vi a2] b I L K :=
  c_take ok hc (fun h I' L' f l => by
    obtain ⟨k, hk, rfl, ek, hv, ht⟩ := tk_in ok h
    refine hy h I' L' f ?_ l
    rw [ek] at l
    unfold Bk.wd
    rw [ek]
    exact ⟨_, _, _, _, rfl, ok41 hv, ht, wi0_ok, l⟩) hn
theorem cm_bothW {B : Bk} {a1 a2 : Int32} {b : Bool} {I : MI} {L : ML} {K : Int32 → Bool → MI → ML → Prop} (ok : B.ok) (hm : bkM 0 B I) (hy : tkB B a1 a2 = true → ∀ I' L' o, (∀ a, a ≠ 186 → I' a = I a) → WM (B.vl a1.toNatClampNeg) (B.tlOf a2) wi0 o (B.wd a1 a2) I' L' → K (nI 1) b I' L') (hn : tkB B a1 a2 = false → ∀ I', (∀ a, a ≠ 186 → I' a = I a) → K (nI 0) b I' L) : CI m_M_areBoth [vr 22 186, vi a1, vi a2] b I L K :=
  cm_areBoth ok hm (fun h I' L' f ⟨k, hk, e, W⟩ => by
    have := ok.1.1
    subst e
    have ek : (nI k).toNatClampNeg = k := n_cl (by omega)
    refine hy h I' L' (610 + 200 * k) f ?_
    unfold Bk.wd
    rw [ek]
    exact W) hn
theorem wd_la {B : Bk} {a1 a2 : Int32} (ok : B.ok) (h : tkB B a1 a2 = true) : (B.wd a1 a2).v.ok 40 := by
  obtain ⟨k, hk, rfl, ek, hv, ht⟩ := tk_in ok h
  unfold Bk.wd
  rw [ek]
  exact hv
/-- who holds on a day -/
def hold (w : Wd) (d p : Nat) : Bool := (stt w d).ha 0 p && !(stt w d).ha 1 p
def hdI (w : Wd) (d : Nat) : Int32 := bI w.v.n (hold w d)
def dnI (w : Wd) (d : Nat) : Int32 := bI w.v.n ((stt w d).ha 1)
theorem c_holdersOn {w : Wd} {d : Nat} (hd : d ≤ 200) (hn : w.v.n ≤ 16) {b : Bool} {I : MI} {L : ML} {K : Int32 → Bool → MI → ML → Prop} (r : rowC w d I L) (hK : K (hdI w d) b I L) : CI m_Days_holdersOn [vr 11 165, vi (nI d)] b I L K := by
  have e : I 167 d &&& (I 173 d ^^^ nM) = hdI w d := by
    refine bI_of (by omega) (fun i hi => ?_)
    have h0 := r.1.1 i hi
    have h1 := r.2.1.1 i hi
    simp only [Nat.reduceAdd] at h0 h1
    rw [b_and, b_xor, b_m1 i hi, Bool.xor_true, h0, h1]
    unfold hold
    cases decide (i < w.v.n)
    · simp
    · simp
  refine v_Days_holdersOn_0 ?_
  simp (disch := first | omega | assumption) only [n_lit, n_gLt, n_gLe, n_gEq, n_gEq2, n_gLe2, n_gLt2, n_m1, n_add, n_mul, n_lt, n_le, n_eq, n_cl, n_in, n_rem, n_mlt, n_mle, n_ltm, n_lem, n_eqm, n_meq, n_bit, n_shl, n_b0, n_b1, n_sub, n_inT, nT, nF, lT, lF, eT, eF, not_false_eq_true, not_true_eq_false, sI_at, sI_c, sI_j, aI_at, aI_c, sL_at, sL_c, sL_j, true_and, and_true, not_true_eq_false, not_false_eq_true, forall_const, true_implies, false_implies, implies_true, if_true, if_false, ite_true, ite_false, Bool.not_eq_true, Bool.not_eq_false, Bool.true_eq_false, Bool.false_eq_true, false_and, and_false, or_true, true_or, false_or, or_false, e]
  exact hK
theorem dn_row {w : Wd} {d : Nat} {I : MI} {L : ML} (hn : w.v.n ≤ 16) (r : rowC w d I L) : I 173 d = dnI w d := bI_of (by omega) (fun i hi => r.2.1.1 i hi)
theorem cm_holdersOf {v : Vil} {t : Tel} {x : Wi} {o : Nat} {w : Wd} {d : Nat} {u : Int32} (hd : d ≤ 200) {b : Bool} {I : MI} {L : ML} {K : Int32 → Bool → MI → ML → Prop} (h : WM v t x o w I L) (q : dayQ w d I) (hK : K (if u = nI 0 then hdI w d else dnI w d) b I L) : CI m_M_holdersOf [vr 22 186, vi (nI d), vi u] b I L K := by
  have hn := h.1.2.1.1.2
  have loop : ∀ n i, i + n = w.v.n → ∀ y : Int32, (∀ p, p < 32 → bt y p = (decide (p < i) && (if u = nI 0 then hold w d p else (stt w d).ha 1 p))) → SW m_M_holdersOf 5 [vr 22 186, vi (nI d), vi u, vi y, vi (nI i)] [] b I L (kI K) := by
    intro n
    induction n with
    | zero =>
      intro i hi y hy
      obtain rfl : i = w.v.n := by omega
      have e : y = (if u = nI 0 then hdI w d else dnI w d) := by
        by_cases c : u = nI 0
        · rw [if_pos c]
          refine bI_of (by omega) (fun p hp => ?_)
          rw [hy p hp, if_pos c]
        · rw [if_neg c]
          refine bI_of (by omega) (fun p hp => ?_)
          rw [hy p hp, if_neg c]
      rw [← e] at hK
      refine v_M_holdersOf_5 (cm_people h ?_)
      simp (disch := first | omega | assumption) only [n_lit, n_gLt, n_gLe, n_gEq, n_gEq2, n_gLe2, n_gLt2, n_m1, n_add, n_mul, n_lt, n_le, n_eq, n_cl, n_in, n_rem, n_mlt, n_mle, n_ltm, n_lem, n_eqm, n_meq, n_bit, n_shl, n_b0, n_b1, n_sub, n_inT, nT, nF, lT, lF, eT, eF, not_false_eq_true, not_true_eq_false, sI_at, sI_c, sI_j, aI_at, aI_c, sL_at, sL_c, sL_j, true_and, and_true, not_true_eq_false, not_false_eq_true, forall_const, true_implies, false_implies, implies_true, if_true, if_false, ite_true, ite_false, Bool.not_eq_true, Bool.not_eq_false, Bool.true_eq_false, Bool.false_eq_true, false_and, and_false, or_true, true_or, false_or, or_false]
      exact hK
    | succ n ih =>
      intro i hi y hy
      obtain ⟨e1, -⟩ := q i (by omega)
      have nxt : ∀ (z : Int32) (c : Bool), (∀ p, p < 32 → bt z p = (decide (p = i) && c)) → c = (if u = nI 0 then hold w d i else (stt w d).ha 1 i) → SW m_M_holdersOf 5 [vr 22 186, vi (nI d), vi u, vi (y ||| z), vi (nI (i + 1))] [] b I L (kI K) := fun z c hz hc => ih (i + 1) (by omega) _ (fun p hp => by
        rw [b_or, hy p hp, hz p hp]
        by_cases e : p = i
        · subst e
          rw [decide_eq_false (Nat.lt_irrefl p), Bool.false_and, Bool.false_or, decide_eq_true rfl, Bool.true_and, decide_eq_true (by omega : p < p + 1), Bool.true_and, hc]
        · rw [decide_eq_false e, Bool.false_and, Bool.or_false]
          congr 1
          exact decide_eq_decide.mpr ⟨fun _ => by omega, fun _ => by omega⟩)
      have b2 : ∀ p, p < 32 → bt (nI (2 ^ i)) p = (decide (p = i) && true) := fun p hp => by
        rw [b_2p hp, Bool.and_true]
        exact decide_eq_decide.mpr ⟨fun q => q.symm, fun q => q.symm⟩
      have b0 : ∀ p, p < 32 → bt (nI 0) p = (decide (p = i) && false) := fun p hp => by rw [b_0, Bool.and_false]
      refine v_M_holdersOf_5 (cm_people h ?_)
      by_cases c : u = nI 0
      · by_cases c1 : (stt w d).ha 0 i = true ∧ (stt w d).ha 1 i = false
        · have g := nxt _ true b2 (by rw [if_pos c]; unfold hold; rw [c1.1, c1.2]; rfl)
          simp (disch := first | omega | assumption) only [n_lit, n_gLt, n_gLe, n_gEq, n_gEq2, n_gLe2, n_gLt2, n_m1, n_add, n_mul, n_lt, n_le, n_eq, n_cl, n_in, n_rem, n_mlt, n_mle, n_ltm, n_lem, n_eqm, n_meq, n_bit, n_shl, n_b0, n_b1, n_sub, n_inT, nT, nF, lT, lF, eT, eF, not_false_eq_true, not_true_eq_false, sI_at, sI_c, sI_j, aI_at, aI_c, sL_at, sL_c, sL_j, true_and, and_true, not_true_eq_false, not_false_eq_true, forall_const, true_implies, false_implies, implies_true, if_true, if_false, ite_true, ite_false, Bool.not_eq_true, Bool.not_eq_false, Bool.true_eq_false, Bool.false_eq_true, false_and, and_false, or_true, true_or, false_or, or_false, c, e1, hc_1, c1]
          rw [c] at g
          exact g
        · have g := nxt _ false b0 (by
            rw [if_pos c]
            unfold hold
            cases h0 : (stt w d).ha 0 i <;> cases h1 : (stt w d).ha 1 i <;> first | rfl | exact absurd ⟨h0, h1⟩ c1)
          simp (disch := first | omega | assumption) only [n_lit, n_gLt, n_gLe, n_gEq, n_gEq2, n_gLe2, n_gLt2, n_m1, n_add, n_mul, n_lt, n_le, n_eq, n_cl, n_in, n_rem, n_mlt, n_mle, n_ltm, n_lem, n_eqm, n_meq, n_bit, n_shl, n_b0, n_b1, n_sub, n_inT, nT, nF, lT, lF, eT, eF, not_false_eq_true, not_true_eq_false, sI_at, sI_c, sI_j, aI_at, aI_c, sL_at, sL_c, sL_j, true_and, and_true, not_true_eq_false, not_false_eq_true, forall_const, true_implies, false_implies, implies_true, if_true, if_false, ite_true, ite_false, Bool.not_eq_true, Bool.not_eq_false, Bool.true_eq_false, Bool.false_eq_true, false_and, and_false, or_true, true_or, false_or, or_false, c, e1, hc_1, c1]
          rw [c] at g
          exact g
      · cases h1 : (stt w d).ha 1 i with
        | true =>
          have g := nxt _ true b2 (by rw [if_neg c, h1])
          have eb := hc_b1 ((stt w d).ha 0 i) true
          rw [h1] at e1
          simp (disch := first | omega | assumption) only [n_lit, n_gLt, n_gLe, n_gEq, n_gEq2, n_gLe2, n_gLt2, n_m1, n_add, n_mul, n_lt, n_le, n_eq, n_cl, n_in, n_rem, n_mlt, n_mle, n_ltm, n_lem, n_eqm, n_meq, n_bit, n_shl, n_b0, n_b1, n_sub, n_inT, nT, nF, lT, lF, eT, eF, not_false_eq_true, not_true_eq_false, sI_at, sI_c, sI_j, aI_at, aI_c, sL_at, sL_c, sL_j, true_and, and_true, not_true_eq_false, not_false_eq_true, forall_const, true_implies, false_implies, implies_true, if_true, if_false, ite_true, ite_false, Bool.not_eq_true, Bool.not_eq_false, Bool.true_eq_false, Bool.false_eq_true, false_and, and_false, or_true, true_or, false_or, or_false, c, e1, eb, Bool.toNat_true]
          exact g
        | false =>
          have g := nxt _ false b0 (by rw [if_neg c, h1])
          have eb := hc_b1 ((stt w d).ha 0 i) false
          rw [h1] at e1
          have z : nI 0 <<< (nI i &&& nI 31) = nI 0 := by
            apply b_ext
            intro p hp
            rw [b_shl i (by omega) _ hp, b_0, b_0, Bool.and_false]
          simp (disch := first | omega | assumption) only [n_lit, n_gLt, n_gLe, n_gEq, n_gEq2, n_gLe2, n_gLt2, n_m1, n_add, n_mul, n_lt, n_le, n_eq, n_cl, n_in, n_rem, n_mlt, n_mle, n_ltm, n_lem, n_eqm, n_meq, n_bit, n_shl, n_b0, n_b1, n_sub, n_inT, nT, nF, lT, lF, eT, eF, not_false_eq_true, not_true_eq_false, sI_at, sI_c, sI_j, aI_at, aI_c, sL_at, sL_c, sL_j, true_and, and_true, not_true_eq_false, not_false_eq_true, forall_const, true_implies, false_implies, implies_true, if_true, if_false, ite_true, ite_false, Bool.not_eq_true, Bool.not_eq_false, Bool.true_eq_false, Bool.false_eq_true, false_and, and_false, or_true, true_or, false_or, or_false, c, e1, eb, Bool.toNat_false, z]
          exact g
  refine v_M_holdersOf_0 (loop w.v.n 0 (by omega) (nI 0) (fun p hp => ?_))
  rw [b_0]
  rfl
theorem op_holders : H_holders := by
  intro a1 a2 a3 a4 h4
  refine Op2.q (fun B => if (inR a3 201 && tkB B a1 a2) = true then (if a4 = nI 0 then hdI (B.wd a1 a2) a3.toNatClampNeg else dnI (B.wd a1 a2) a3.toNatClampNeg) else nM) (fun B I b L K ok hc k => ?_) (fun B I b L K ok hm k => ?_)
  · refine v_S_holders_0 (c_onDay (n := 200) (by decide) (fun g1 => ?_) (fun g1 => ?_))
    · obtain ⟨d, hd, rfl⟩ := (inR_iff (by decide)).mp g1
      simp (disch := first | omega | assumption) only [n_lit, n_gLt, n_gLe, n_gEq, n_gEq2, n_gLe2, n_gLt2, n_m1, n_add, n_mul, n_lt, n_le, n_eq, n_cl, n_in, n_rem, n_mlt, n_mle, n_ltm, n_lem, n_eqm, n_meq, n_bit, n_shl, n_b0, n_b1, n_sub, n_inT, nT, nF, lT, lF, eT, eF, not_false_eq_true, not_true_eq_false, sI_at, sI_c, sI_j, aI_at, aI_c, sL_at, sL_c, sL_j, true_and, and_true, not_true_eq_false, not_false_eq_true, forall_const, true_implies, false_implies, implies_true, if_true, if_false, ite_true, ite_false, Bool.not_eq_true, Bool.not_eq_false, Bool.true_eq_false, Bool.false_eq_true, false_and, and_false, or_true, true_or, false_or, or_false]
      refine c_takeW ok hc (fun g2 I1 L1 f1 W1 _ => ?_) (fun g2 => ?_)
      · simp (disch := first | omega | assumption) only [n_lit, n_gLt, n_gLe, n_gEq, n_gEq2, n_gLe2, n_gLt2, n_m1, n_add, n_mul, n_lt, n_le, n_eq, n_cl, n_in, n_rem, n_mlt, n_mle, n_ltm, n_lem, n_eqm, n_meq, n_bit, n_shl, n_b0, n_b1, n_sub, n_inT, nT, nF, lT, lF, eT, eF, not_false_eq_true, not_true_eq_false, sI_at, sI_c, sI_j, aI_at, aI_c, sL_at, sL_c, sL_j, true_and, and_true, not_true_eq_false, not_false_eq_true, forall_const, true_implies, false_implies, implies_true, if_true, if_false, ite_true, ite_false, Bool.not_eq_true, Bool.not_eq_false, Bool.true_eq_false, Bool.false_eq_true, false_and, and_false, or_true, true_or, false_or, or_false]
        have hn := W1.vil.2.1.2
        refine c_live (w := B.wd a1 a2) (s0 := 0) (U := d + 1) (by omega) (by omega) (Or.inr ⟨by omega, rfl⟩) (Or.inl rfl) W1 (fun e he => absurd he (Nat.not_lt_zero _)) (by omega) (fun N I2 L2 f2 _ n1 n2 rows _ _ hN _ => ?_)
        have hN := hN rfl
        have kk := k b I2 L2 (fun a ha => (f2 a (by omega)).trans (f1 a (by omega)))
        rw [g1, g2] at kk
        by_cases c : a4 = nI 0
        · simp (disch := first | omega | assumption) only [n_lit, n_gLt, n_gLe, n_gEq, n_gEq2, n_gLe2, n_gLt2, n_m1, n_add, n_mul, n_lt, n_le, n_eq, n_cl, n_in, n_rem, n_mlt, n_mle, n_ltm, n_lem, n_eqm, n_meq, n_bit, n_shl, n_b0, n_b1, n_sub, n_inT, nT, nF, lT, lF, eT, eF, not_false_eq_true, not_true_eq_false, sI_at, sI_c, sI_j, aI_at, aI_c, sL_at, sL_c, sL_j, true_and, and_true, not_true_eq_false, not_false_eq_true, forall_const, true_implies, false_implies, implies_true, if_true, if_false, ite_true, ite_false, Bool.not_eq_true, Bool.not_eq_false, Bool.true_eq_false, Bool.false_eq_true, false_and, and_false, or_true, true_or, false_or, or_false, c] at kk
          simp (disch := first | omega | assumption) only [n_lit, n_gLt, n_gLe, n_gEq, n_gEq2, n_gLe2, n_gLt2, n_m1, n_add, n_mul, n_lt, n_le, n_eq, n_cl, n_in, n_rem, n_mlt, n_mle, n_ltm, n_lem, n_eqm, n_meq, n_bit, n_shl, n_b0, n_b1, n_sub, n_inT, nT, nF, lT, lF, eT, eF, not_false_eq_true, not_true_eq_false, sI_at, sI_c, sI_j, aI_at, aI_c, sL_at, sL_c, sL_j, true_and, and_true, not_true_eq_false, not_false_eq_true, forall_const, true_implies, false_implies, implies_true, if_true, if_false, ite_true, ite_false, Bool.not_eq_true, Bool.not_eq_false, Bool.true_eq_false, Bool.false_eq_true, false_and, and_false, or_true, true_or, false_or, or_false, c]
          exact c_holdersOn (by omega) hn (rows d (by omega)) kk
        · have e := dn_row hn (rows d (by omega))
          simp (disch := first | omega | assumption) only [n_lit, n_gLt, n_gLe, n_gEq, n_gEq2, n_gLe2, n_gLt2, n_m1, n_add, n_mul, n_lt, n_le, n_eq, n_cl, n_in, n_rem, n_mlt, n_mle, n_ltm, n_lem, n_eqm, n_meq, n_bit, n_shl, n_b0, n_b1, n_sub, n_inT, nT, nF, lT, lF, eT, eF, not_false_eq_true, not_true_eq_false, sI_at, sI_c, sI_j, aI_at, aI_c, sL_at, sL_c, sL_j, true_and, and_true, not_true_eq_false, not_false_eq_true, forall_const, true_implies, false_implies, implies_true, if_true, if_false, ite_true, ite_false, Bool.not_eq_true, Bool.not_eq_false, Bool.true_eq_false, Bool.false_eq_true, false_and, and_false, or_true, true_or, false_or, or_false, c] at kk
          simp (disch := first | omega | assumption) only [n_lit, n_gLt, n_gLe, n_gEq, n_gEq2, n_gLe2, n_gLt2, n_m1, n_add, n_mul, n_lt, n_le, n_eq, n_cl, n_in, n_rem, n_mlt, n_mle, n_ltm, n_lem, n_eqm, n_meq, n_bit, n_shl, n_b0, n_b1, n_sub, n_inT, nT, nF, lT, lF, eT, eF, not_false_eq_true, not_true_eq_false, sI_at, sI_c, sI_j, aI_at, aI_c, sL_at, sL_c, sL_j, true_and, and_true, not_true_eq_false, not_false_eq_true, forall_const, true_implies, false_implies, implies_true, if_true, if_false, ite_true, ite_false, Bool.not_eq_true, Bool.not_eq_false, Bool.true_eq_false, Bool.false_eq_true, false_and, and_false, or_true, true_or, false_or, or_false, c, e]
          exact kk
      · have kk := k b I L (fun _ _ => rfl)
        rw [g2, Bool.and_false] at kk
        simp (disch := first | omega | assumption) only [n_lit, n_gLt, n_gLe, n_gEq, n_gEq2, n_gLe2, n_gLt2, n_m1, n_add, n_mul, n_lt, n_le, n_eq, n_cl, n_in, n_rem, n_mlt, n_mle, n_ltm, n_lem, n_eqm, n_meq, n_bit, n_shl, n_b0, n_b1, n_sub, n_inT, nT, nF, lT, lF, eT, eF, not_false_eq_true, not_true_eq_false, sI_at, sI_c, sI_j, aI_at, aI_c, sL_at, sL_c, sL_j, true_and, and_true, not_true_eq_false, not_false_eq_true, forall_const, true_implies, false_implies, implies_true, if_true, if_false, ite_true, ite_false, Bool.not_eq_true, Bool.not_eq_false, Bool.true_eq_false, Bool.false_eq_true, false_and, and_false, or_true, true_or, false_or, or_false] at kk
        simp (disch := first | omega | assumption) only [n_lit, n_gLt, n_gLe, n_gEq, n_gEq2, n_gLe2, n_gLt2, n_m1, n_add, n_mul, n_lt, n_le, n_eq, n_cl, n_in, n_rem, n_mlt, n_mle, n_ltm, n_lem, n_eqm, n_meq, n_bit, n_shl, n_b0, n_b1, n_sub, n_inT, nT, nF, lT, lF, eT, eF, not_false_eq_true, not_true_eq_false, sI_at, sI_c, sI_j, aI_at, aI_c, sL_at, sL_c, sL_j, true_and, and_true, not_true_eq_false, not_false_eq_true, forall_const, true_implies, false_implies, implies_true, if_true, if_false, ite_true, ite_false, Bool.not_eq_true, Bool.not_eq_false, Bool.true_eq_false, Bool.false_eq_true, false_and, and_false, or_true, true_or, false_or, or_false]
        exact kk
    · have kk := k b I L (fun _ _ => rfl)
      rw [g1, Bool.false_and] at kk
      simp (disch := first | omega | assumption) only [n_lit, n_gLt, n_gLe, n_gEq, n_gEq2, n_gLe2, n_gLt2, n_m1, n_add, n_mul, n_lt, n_le, n_eq, n_cl, n_in, n_rem, n_mlt, n_mle, n_ltm, n_lem, n_eqm, n_meq, n_bit, n_shl, n_b0, n_b1, n_sub, n_inT, nT, nF, lT, lF, eT, eF, not_false_eq_true, not_true_eq_false, sI_at, sI_c, sI_j, aI_at, aI_c, sL_at, sL_c, sL_j, true_and, and_true, not_true_eq_false, not_false_eq_true, forall_const, true_implies, false_implies, implies_true, if_true, if_false, ite_true, ite_false, Bool.not_eq_true, Bool.not_eq_false, Bool.true_eq_false, Bool.false_eq_true, false_and, and_false, or_true, true_or, false_or, or_false] at kk
      simp (disch := first | omega | assumption) only [n_lit, n_gLt, n_gLe, n_gEq, n_gEq2, n_gLe2, n_gLt2, n_m1, n_add, n_mul, n_lt, n_le, n_eq, n_cl, n_in, n_rem, n_mlt, n_mle, n_ltm, n_lem, n_eqm, n_meq, n_bit, n_shl, n_b0, n_b1, n_sub, n_inT, nT, nF, lT, lF, eT, eF, not_false_eq_true, not_true_eq_false, sI_at, sI_c, sI_j, aI_at, aI_c, sL_at, sL_c, sL_j, true_and, and_true, not_true_eq_false, not_false_eq_true, forall_const, true_implies, false_implies, implies_true, if_true, if_false, ite_true, ite_false, Bool.not_eq_true, Bool.not_eq_false, Bool.true_eq_false, Bool.false_eq_true, false_and, and_false, or_true, true_or, false_or, or_false]
      exact kk
  · refine v_M_holders_0 (cm_isIn0 (n := 200) (by decide) (fun g1 => ?_) (fun g1 => ?_))
    · obtain ⟨d, hd, rfl⟩ := (inR_iff (by decide)).mp g1
      simp (disch := first | omega | assumption) only [n_lit, n_gLt, n_gLe, n_gEq, n_gEq2, n_gLe2, n_gLt2, n_m1, n_add, n_mul, n_lt, n_le, n_eq, n_cl, n_in, n_rem, n_mlt, n_mle, n_ltm, n_lem, n_eqm, n_meq, n_bit, n_shl, n_b0, n_b1, n_sub, n_inT, nT, nF, lT, lF, eT, eF, not_false_eq_true, not_true_eq_false, sI_at, sI_c, sI_j, aI_at, aI_c, sL_at, sL_c, sL_j, true_and, and_true, not_true_eq_false, not_false_eq_true, forall_const, true_implies, false_implies, implies_true, if_true, if_false, ite_true, ite_false, Bool.not_eq_true, Bool.not_eq_false, Bool.true_eq_false, Bool.false_eq_true, false_and, and_false, or_true, true_or, false_or, or_false]
      refine cm_bothW ok hm (fun g2 I1 L1 o f1 W1 => ?_) (fun g2 I1 f1 => ?_)
      · simp (disch := first | omega | assumption) only [n_lit, n_gLt, n_gLe, n_gEq, n_gEq2, n_gLe2, n_gLt2, n_m1, n_add, n_mul, n_lt, n_le, n_eq, n_cl, n_in, n_rem, n_mlt, n_mle, n_ltm, n_lem, n_eqm, n_meq, n_bit, n_shl, n_b0, n_b1, n_sub, n_inT, nT, nF, lT, lF, eT, eF, not_false_eq_true, not_true_eq_false, sI_at, sI_c, sI_j, aI_at, aI_c, sL_at, sL_c, sL_j, true_and, and_true, not_true_eq_false, not_false_eq_true, forall_const, true_implies, false_implies, implies_true, if_true, if_false, ite_true, ite_false, Bool.not_eq_true, Bool.not_eq_false, Bool.true_eq_false, Bool.false_eq_true, false_and, and_false, or_true, true_or, false_or, or_false]
        refine cm_runs W1 (Or.inr rfl) (fun N I2 L2 f2 l2 n1 D R hN _ => ?_)
        have hN := hN rfl
        have kk := k b I2 L2 (fun a ha => (f2.1 a (by omega)).trans (f1 a (by omega)))
        rw [g1, g2] at kk
        simp (disch := first | omega | assumption) only [n_lit, n_gLt, n_gLe, n_gEq, n_gEq2, n_gLe2, n_gLt2, n_m1, n_add, n_mul, n_lt, n_le, n_eq, n_cl, n_in, n_rem, n_mlt, n_mle, n_ltm, n_lem, n_eqm, n_meq, n_bit, n_shl, n_b0, n_b1, n_sub, n_inT, nT, nF, lT, lF, eT, eF, not_false_eq_true, not_true_eq_false, sI_at, sI_c, sI_j, aI_at, aI_c, sL_at, sL_c, sL_j, true_and, and_true, not_true_eq_false, not_false_eq_true, forall_const, true_implies, false_implies, implies_true, if_true, if_false, ite_true, ite_false, Bool.not_eq_true, Bool.not_eq_false, Bool.true_eq_false, Bool.false_eq_true, false_and, and_false, or_true, true_or, false_or, or_false] at kk
        refine cm_holdersOf (by omega) (W1.frM f2 (l2 186 (by decide))) (D.2.2.2.1 d (by omega)) ?_
        exact kk
      · have kk := k b I1 L (fun a ha => f1 a (by omega))
        rw [g2, Bool.and_false] at kk
        simp (disch := first | omega | assumption) only [n_lit, n_gLt, n_gLe, n_gEq, n_gEq2, n_gLe2, n_gLt2, n_m1, n_add, n_mul, n_lt, n_le, n_eq, n_cl, n_in, n_rem, n_mlt, n_mle, n_ltm, n_lem, n_eqm, n_meq, n_bit, n_shl, n_b0, n_b1, n_sub, n_inT, nT, nF, lT, lF, eT, eF, not_false_eq_true, not_true_eq_false, sI_at, sI_c, sI_j, aI_at, aI_c, sL_at, sL_c, sL_j, true_and, and_true, not_true_eq_false, not_false_eq_true, forall_const, true_implies, false_implies, implies_true, if_true, if_false, ite_true, ite_false, Bool.not_eq_true, Bool.not_eq_false, Bool.true_eq_false, Bool.false_eq_true, false_and, and_false, or_true, true_or, false_or, or_false] at kk
        simp (disch := first | omega | assumption) only [n_lit, n_gLt, n_gLe, n_gEq, n_gEq2, n_gLe2, n_gLt2, n_m1, n_add, n_mul, n_lt, n_le, n_eq, n_cl, n_in, n_rem, n_mlt, n_mle, n_ltm, n_lem, n_eqm, n_meq, n_bit, n_shl, n_b0, n_b1, n_sub, n_inT, nT, nF, lT, lF, eT, eF, not_false_eq_true, not_true_eq_false, sI_at, sI_c, sI_j, aI_at, aI_c, sL_at, sL_c, sL_j, true_and, and_true, not_true_eq_false, not_false_eq_true, forall_const, true_implies, false_implies, implies_true, if_true, if_false, ite_true, ite_false, Bool.not_eq_true, Bool.not_eq_false, Bool.true_eq_false, Bool.false_eq_true, false_and, and_false, or_true, true_or, false_or, or_false]
        exact kk
    · have kk := k b I L (fun _ _ => rfl)
      rw [g1, Bool.false_and] at kk
      simp (disch := first | omega | assumption) only [n_lit, n_gLt, n_gLe, n_gEq, n_gEq2, n_gLe2, n_gLt2, n_m1, n_add, n_mul, n_lt, n_le, n_eq, n_cl, n_in, n_rem, n_mlt, n_mle, n_ltm, n_lem, n_eqm, n_meq, n_bit, n_shl, n_b0, n_b1, n_sub, n_inT, nT, nF, lT, lF, eT, eF, not_false_eq_true, not_true_eq_false, sI_at, sI_c, sI_j, aI_at, aI_c, sL_at, sL_c, sL_j, true_and, and_true, not_true_eq_false, not_false_eq_true, forall_const, true_implies, false_implies, implies_true, if_true, if_false, ite_true, ite_false, Bool.not_eq_true, Bool.not_eq_false, Bool.true_eq_false, Bool.false_eq_true, false_and, and_false, or_true, true_or, false_or, or_false] at kk
      simp (disch := first | omega | assumption) only [n_lit, n_gLt, n_gLe, n_gEq, n_gEq2, n_gLe2, n_gLt2, n_m1, n_add, n_mul, n_lt, n_le, n_eq, n_cl, n_in, n_rem, n_mlt, n_mle, n_ltm, n_lem, n_eqm, n_meq, n_bit, n_shl, n_b0, n_b1, n_sub, n_inT, nT, nF, lT, lF, eT, eF, not_false_eq_true, not_true_eq_false, sI_at, sI_c, sI_j, aI_at, aI_c, sL_at, sL_c, sL_j, true_and, and_true, not_true_eq_false, not_false_eq_true, forall_const, true_implies, false_implies, implies_true, if_true, if_false, ite_true, ite_false, Bool.not_eq_true, Bool.not_eq_false, Bool.true_eq_false, Bool.false_eq_true, false_and, and_false, or_true, true_or, false_or, or_false]
      exact kk
