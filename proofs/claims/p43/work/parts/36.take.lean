/-! take; amounts, open ties, the last day, in the class's cells -/
def Bk.tlOf (B : Bk) (a : Int32) : Tel := if a = nM then telN else B.tl a.toNatClampNeg
def tkB (B : Bk) (a1 a2 : Int32) : Bool := (decide (nI 0 ≤ a1) && decide (a1 < nI B.nv)) && (decide (a2 = nM) || (decide (nI 0 ≤ a2) && decide (a2 < nI B.nt)))
theorem tk_ix {a : Int32} {n : Nat} (hn : n ≤ 40) : (decide (nI 0 ≤ a) && decide (a < nI n)) = true ↔ ∃ k, k < n ∧ a = nI k := by
  rw [Bool.and_eq_true, decide_eq_true_iff, decide_eq_true_iff]
  constructor
  · rintro ⟨h1, h2⟩
    rcases n_sgn a with h | ⟨j, g, rfl⟩
    · exact absurd h1 (n_nat h 0 (by omega)).2.2.1
    · rw [n_lt g (by omega)] at h2
      exact ⟨j, h2, rfl⟩
  · rintro ⟨k, h1, rfl⟩
    rw [n_le (by omega) (by omega), n_lt (by omega) (by omega)]
    omega
theorem tk_out {a : Int32} {n : Nat} (hn : n ≤ 40) (h : ¬ ∃ k, k < n ∧ a = nI k) : a < nI 0 ∨ ∃ j, n ≤ j ∧ j < 2147483648 ∧ a = nI j := by
  rcases n_sgn a with h1 | ⟨j, g, rfl⟩
  · exact Or.inl h1
  · exact Or.inr ⟨j, Nat.not_lt.mp fun q => h ⟨j, q, rfl⟩, g, rfl⟩
theorem tkB_iff {B : Bk} {a1 a2 : Int32} (ok : B.ok) : tkB B a1 a2 = true ↔ (∃ k, k < B.nv ∧ a1 = nI k) ∧ (a2 = nM ∨ ∃ j, j < B.nt ∧ a2 = nI j) := by
  have h1 := ok.1.1
  have h2 := ok.1.2.1
  unfold tkB
  rw [Bool.and_eq_true, tk_ix (by omega), Bool.or_eq_true, tk_ix (by omega), decide_eq_true_iff]
theorem tlOf_ok {B : Bk} {a2 : Int32} (ok : B.ok) (h : a2 = nM ∨ ∃ j, j < B.nt ∧ a2 = nI j) : (B.tlOf a2).ok := by
  have h2 := ok.1.2.1
  unfold Bk.tlOf
  rcases h with h | ⟨j, h1, rfl⟩
  · rw [if_pos h]; exact telN_ok
  · rw [if_neg (by rw [n_eqm (by omega)]; exact id), n_cl (by omega)]
    exact ok.2.2.2 j h1
/-- the class's run as it is taken up: the village, the telling, the what-if -/
def lifeP (v : Vil) (m0 : Nat) (t : Tel) (x : Wi) (I : MI) (L : ML) : Prop := vilC 154 v I ∧ givP m0 t I L ∧ wiP x I L
theorem c_hasV_y {c k n : Nat} {b : Bool} {I : MI} {L : ML} {K : Int32 → Bool → MI → ML → Prop} (h : I c 3 = nI n) (hn : n ≤ 3) (hk : k < n) (hK : K (nI 1) b I L) : CI m_Book_hasVillage [vr 10 c, vi (nI k)] b I L K := by
  refine v_Book_hasVillage_0 ?_
  simp (disch := first | omega | assumption) only [n_lit, n_gLt, n_gLe, n_gEq, n_gEq2, n_gLe2, n_gLt2, n_m1, n_add, n_mul, n_lt, n_le, n_eq, n_cl, n_in, n_rem, n_mlt, n_mle, n_ltm, n_lem, n_eqm, n_meq, n_bit, n_shl, n_b0, n_b1, n_sub, n_inT, nT, nF, lT, lF, eT, eF, not_false_eq_true, not_true_eq_false, sI_at, sI_c, sI_j, aI_at, aI_c, sL_at, sL_c, sL_j, true_and, and_true, not_true_eq_false, not_false_eq_true, forall_const, true_implies, false_implies, implies_true, if_true, if_false, ite_true, ite_false, Bool.not_eq_true, Bool.not_eq_false, Bool.true_eq_false, Bool.false_eq_true, false_and, and_false, or_true, true_or, false_or, or_false, h]
  exact hK
theorem c_hasV_n {c n : Nat} {a : Int32} {b : Bool} {I : MI} {L : ML} {K : Int32 → Bool → MI → ML → Prop} (h : I c 3 = nI n) (hn : n ≤ 3) (hk : ¬ ∃ k, k < n ∧ a = nI k) (hK : K (nI 0) b I L) : CI m_Book_hasVillage [vr 10 c, vi a] b I L K := by
  refine v_Book_hasVillage_0 ?_
  rcases tk_out (by omega) hk with q | ⟨j, q1, q2, rfl⟩
  · simp (disch := first | omega | assumption) only [n_lit, n_gLt, n_gLe, n_gEq, n_gEq2, n_gLe2, n_gLt2, n_m1, n_add, n_mul, n_lt, n_le, n_eq, n_cl, n_in, n_rem, n_mlt, n_mle, n_ltm, n_lem, n_eqm, n_meq, n_bit, n_shl, n_b0, n_b1, n_sub, n_inT, nT, nF, lT, lF, eT, eF, not_false_eq_true, not_true_eq_false, sI_at, sI_c, sI_j, aI_at, aI_c, sL_at, sL_c, sL_j, true_and, and_true, not_true_eq_false, not_false_eq_true, forall_const, true_implies, false_implies, implies_true, if_true, if_false, ite_true, ite_false, Bool.not_eq_true, Bool.not_eq_false, Bool.true_eq_false, Bool.false_eq_true, false_and, and_false, or_true, true_or, false_or, or_false]
    exact hK
  · simp (disch := first | omega | assumption) only [n_lit, n_gLt, n_gLe, n_gEq, n_gEq2, n_gLe2, n_gLt2, n_m1, n_add, n_mul, n_lt, n_le, n_eq, n_cl, n_in, n_rem, n_mlt, n_mle, n_ltm, n_lem, n_eqm, n_meq, n_bit, n_shl, n_b0, n_b1, n_sub, n_inT, nT, nF, lT, lF, eT, eF, not_false_eq_true, not_true_eq_false, sI_at, sI_c, sI_j, aI_at, aI_c, sL_at, sL_c, sL_j, true_and, and_true, not_true_eq_false, not_false_eq_true, forall_const, true_implies, false_implies, implies_true, if_true, if_false, ite_true, ite_false, Bool.not_eq_true, Bool.not_eq_false, Bool.true_eq_false, Bool.false_eq_true, false_and, and_false, or_true, true_or, false_or, or_false, h]
    exact hK
theorem c_hasT_y {c k n : Nat} {b : Bool} {I : MI} {L : ML} {K : Int32 → Bool → MI → ML → Prop} (h : I c 4 = nI n) (hn : n ≤ 3) (hk : k < n) (hK : K (nI 1) b I L) : CI m_Book_hasTelling [vr 10 c, vi (nI k)] b I L K := by
  refine v_Book_hasTelling_0 ?_
  simp (disch := first | omega | assumption) only [n_lit, n_gLt, n_gLe, n_gEq, n_gEq2, n_gLe2, n_gLt2, n_m1, n_add, n_mul, n_lt, n_le, n_eq, n_cl, n_in, n_rem, n_mlt, n_mle, n_ltm, n_lem, n_eqm, n_meq, n_bit, n_shl, n_b0, n_b1, n_sub, n_inT, nT, nF, lT, lF, eT, eF, not_false_eq_true, not_true_eq_false, sI_at, sI_c, sI_j, aI_at, aI_c, sL_at, sL_c, sL_j, true_and, and_true, not_true_eq_false, not_false_eq_true, forall_const, true_implies, false_implies, implies_true, if_true, if_false, ite_true, ite_false, Bool.not_eq_true, Bool.not_eq_false, Bool.true_eq_false, Bool.false_eq_true, false_and, and_false, or_true, true_or, false_or, or_false, h]
  exact hK
theorem c_hasT_n {c n : Nat} {a : Int32} {b : Bool} {I : MI} {L : ML} {K : Int32 → Bool → MI → ML → Prop} (h : I c 4 = nI n) (hn : n ≤ 3) (hk : ¬ ∃ k, k < n ∧ a = nI k) (hK : K (nI 0) b I L) : CI m_Book_hasTelling [vr 10 c, vi a] b I L K := by
  refine v_Book_hasTelling_0 ?_
  rcases tk_out (by omega) hk with q | ⟨j, q1, q2, rfl⟩
  · simp (disch := first | omega | assumption) only [n_lit, n_gLt, n_gLe, n_gEq, n_gEq2, n_gLe2, n_gLt2, n_m1, n_add, n_mul, n_lt, n_le, n_eq, n_cl, n_in, n_rem, n_mlt, n_mle, n_ltm, n_lem, n_eqm, n_meq, n_bit, n_shl, n_b0, n_b1, n_sub, n_inT, nT, nF, lT, lF, eT, eF, not_false_eq_true, not_true_eq_false, sI_at, sI_c, sI_j, aI_at, aI_c, sL_at, sL_c, sL_j, true_and, and_true, not_true_eq_false, not_false_eq_true, forall_const, true_implies, false_implies, implies_true, if_true, if_false, ite_true, ite_false, Bool.not_eq_true, Bool.not_eq_false, Bool.true_eq_false, Bool.false_eq_true, false_and, and_false, or_true, true_or, false_or, or_false]
    exact hK
  · simp (disch := first | omega | assumption) only [n_lit, n_gLt, n_gLe, n_gEq, n_gEq2, n_gLe2, n_gLt2, n_m1, n_add, n_mul, n_lt, n_le, n_eq, n_cl, n_in, n_rem, n_mlt, n_mle, n_ltm, n_lem, n_eqm, n_meq, n_bit, n_shl, n_b0, n_b1, n_sub, n_inT, nT, nF, lT, lF, eT, eF, not_false_eq_true, not_true_eq_false, sI_at, sI_c, sI_j, aI_at, aI_c, sL_at, sL_c, sL_j, true_and, and_true, not_true_eq_false, not_false_eq_true, forall_const, true_implies, false_implies, implies_true, if_true, if_false, ite_true, ite_false, Bool.not_eq_true, Bool.not_eq_false, Bool.true_eq_false, Bool.false_eq_true, false_and, and_false, or_true, true_or, false_or, or_false, h]
    exact hK
theorem c_told {B : Bk} {a : Int32} {b : Bool} {I : MI} {L : ML} {K : Int32 → Bool → MI → ML → Prop} (ok : B.ok) (hc : bkC 1 B I) (hy : (a = nM ∨ ∃ j, j < B.nt ∧ a = nI j) → K (nI 1) b I L) (hn : ¬ (a = nM ∨ ∃ j, j < B.nt ∧ a = nI j) → K (nI 0) b I L) : CI m_S_isToldBy [vr 21 0, vi a] b I L K := by
  have h2 := ok.1.2.1
  refine v_S_isToldBy_0 ⟨fun q => ⟨Or.inr rfl, hy (Or.inl q)⟩, fun q => ?_⟩
  by_cases c : ∃ j, j < B.nt ∧ a = nI j
  · obtain ⟨j, hj, rfl⟩ := c
    refine c_hasT_y hc.1.2.1 h2 hj ?_
    have := hy (Or.inr ⟨j, hj, rfl⟩)
    simp (disch := first | omega | assumption) only [n_lit, n_gLt, n_gLe, n_gEq, n_gEq2, n_gLe2, n_gLt2, n_m1, n_add, n_mul, n_lt, n_le, n_eq, n_cl, n_in, n_rem, n_mlt, n_mle, n_ltm, n_lem, n_eqm, n_meq, n_bit, n_shl, n_b0, n_b1, n_sub, n_inT, nT, nF, lT, lF, eT, eF, not_false_eq_true, not_true_eq_false, sI_at, sI_c, sI_j, aI_at, aI_c, sL_at, sL_c, sL_j, true_and, and_true, not_true_eq_false, not_false_eq_true, forall_const, true_implies, false_implies, implies_true, if_true, if_false, ite_true, ite_false, Bool.not_eq_true, Bool.not_eq_false, Bool.true_eq_false, Bool.false_eq_true, false_and, and_false, or_true, true_or, false_or, or_false]
    exact this
  · refine c_hasT_n hc.1.2.1 h2 c ?_
    have := hn (fun z => z.elim q c)
    simp (disch := first | omega | assumption) only [n_lit, n_gLt, n_gLe, n_gEq, n_gEq2, n_gLe2, n_gLt2, n_m1, n_add, n_mul, n_lt, n_le, n_eq, n_cl, n_in, n_rem, n_mlt, n_mle, n_ltm, n_lem, n_eqm, n_meq, n_bit, n_shl, n_b0, n_b1, n_sub, n_inT, nT, nF, lT, lF, eT, eF, not_false_eq_true, not_true_eq_false, sI_at, sI_c, sI_j, aI_at, aI_c, sL_at, sL_c, sL_j, true_and, and_true, not_true_eq_false, not_false_eq_true, forall_const, true_implies, false_implies, implies_true, if_true, if_false, ite_true, ite_false, Bool.not_eq_true, Bool.not_eq_false, Bool.true_eq_false, Bool.false_eq_true, false_and, and_false, or_true, true_or, false_or, or_false]
    exact this
theorem c_give {B : Bk} {m0 : Nat} {a2 : Int32} {b : Bool} {I : MI} {L : ML} {K : Bool → MI → ML → Prop} (ok : B.ok) (hc : bkC 1 B I) (h0 : m0 ≤ 41) (h : a2 = nM ∨ ∃ j, j < B.nt ∧ a2 = nI j) (hm : I 154 3 = nI m0) (hK : ∀ I' L', setQ m0 (B.tlOf a2) I I' L L' → K b I' L') : CR m_Book_tellingOrNull [vr 10 1, vi a2] b I L (fun t_4 k_4 b_4 I_4 L_4 => CV m_Given_set [vr 12 161, vr t_4 k_4, vi (I_4 154 3)] b_4 I_4 L_4 K) := by
  have h2 := ok.1.2.1
  refine v_Book_tellingOrNull_0 ?_
  rcases h with rfl | ⟨j, hj, rfl⟩
  · refine c_hasT_n hc.1.2.1 h2 (fun ⟨j, h1, h3⟩ => absurd h3 (by rw [n_meq (by omega)]; exact id)) ?_
    simp (disch := first | omega | assumption) only [n_lit, n_gLt, n_gLe, n_gEq, n_gEq2, n_gLe2, n_gLt2, n_m1, n_add, n_mul, n_lt, n_le, n_eq, n_cl, n_in, n_rem, n_mlt, n_mle, n_ltm, n_lem, n_eqm, n_meq, n_bit, n_shl, n_b0, n_b1, n_sub, n_inT, nT, nF, lT, lF, eT, eF, not_false_eq_true, not_true_eq_false, sI_at, sI_c, sI_j, aI_at, aI_c, sL_at, sL_c, sL_j, true_and, and_true, not_true_eq_false, not_false_eq_true, forall_const, true_implies, false_implies, implies_true, if_true, if_false, ite_true, ite_false, Bool.not_eq_true, Bool.not_eq_false, Bool.true_eq_false, Bool.false_eq_true, false_and, and_false, or_true, true_or, false_or, or_false, hm]
    refine c_setN (fun I' L' q => hK I' L' ?_)
    unfold Bk.tlOf
    rw [if_pos rfl]
    exact q
  · refine c_hasT_y hc.1.2.1 h2 hj ?_
    simp (disch := first | omega | assumption) only [n_lit, n_gLt, n_gLe, n_gEq, n_gEq2, n_gLe2, n_gLt2, n_m1, n_add, n_mul, n_lt, n_le, n_eq, n_cl, n_in, n_rem, n_mlt, n_mle, n_ltm, n_lem, n_eqm, n_meq, n_bit, n_shl, n_b0, n_b1, n_sub, n_inT, nT, nF, lT, lF, eT, eF, not_false_eq_true, not_true_eq_false, sI_at, sI_c, sI_j, aI_at, aI_c, sL_at, sL_c, sL_j, true_and, and_true, not_true_eq_false, not_false_eq_true, forall_const, true_implies, false_implies, implies_true, if_true, if_false, ite_true, ite_false, Bool.not_eq_true, Bool.not_eq_false, Bool.true_eq_false, Bool.false_eq_true, false_and, and_false, or_true, true_or, false_or, or_false, hm]
    refine c_set (t := B.tl j) h0 (ok.2.2.2 j hj) (by omega) ?_ (fun I' L' q => hK I' L' ?_)
    · have := hc.2.2.2 j hj
      simp only [show 1 + 2 + 17 + 5 * j = 1 + 19 + 5 * j by omega]
      exact this
    · unfold Bk.tlOf
      rw [if_neg (by rw [n_eqm (by omega)]; exact id), n_cl (by omega)]
      exact q
theorem c_take {B : Bk} {a1 a2 : Int32} {b : Bool} {I : MI} {L : ML} {K : Int32 → Bool → MI → ML → Prop} (ok : B.ok) (hc : bkC 1 B I) (hy : tkB B a1 a2 = true → ∀ I' L', (∀ a, a < 154 ∨ 186 ≤ a → I' a = I a) → lifeP (B.vl a1.toNatClampNeg) (B.vl a1.toNatClampNeg).m (B.tlOf a2) wi0 I' L' → K (nI 1) b I' L') (hn : tkB B a1 a2 = false → K (nI 0) b I L) : CI m_S_take [vr 21 0, vi a1, vi a2] b I L K := by
  have h1 := ok.1.1
  have h2 := ok.1.2.1
  refine v_S_take_0 ?_
  by_cases c1 : ∃ k, k < B.nv ∧ a1 = nI k
  · obtain ⟨k, hk, rfl⟩ := c1
    refine c_hasV_y hc.1.1 (by omega) hk ?_
    simp (disch := first | omega | assumption) only [n_lit, n_gLt, n_gLe, n_gEq, n_gEq2, n_gLe2, n_gLt2, n_m1, n_add, n_mul, n_lt, n_le, n_eq, n_cl, n_in, n_rem, n_mlt, n_mle, n_ltm, n_lem, n_eqm, n_meq, n_bit, n_shl, n_b0, n_b1, n_sub, n_inT, nT, nF, lT, lF, eT, eF, not_false_eq_true, not_true_eq_false, sI_at, sI_c, sI_j, aI_at, aI_c, sL_at, sL_c, sL_j, true_and, and_true, not_true_eq_false, not_false_eq_true, forall_const, true_implies, false_implies, implies_true, if_true, if_false, ite_true, ite_false, Bool.not_eq_true, Bool.not_eq_false, Bool.true_eq_false, Bool.false_eq_true, false_and, and_false, or_true, true_or, false_or, or_false]
    refine c_told ok hc (fun c2 => ?_) (fun c2 => ?_)
    · simp (disch := first | omega | assumption) only [n_lit, n_gLt, n_gLe, n_gEq, n_gEq2, n_gLe2, n_gLt2, n_m1, n_add, n_mul, n_lt, n_le, n_eq, n_cl, n_in, n_rem, n_mlt, n_mle, n_ltm, n_lem, n_eqm, n_meq, n_bit, n_shl, n_b0, n_b1, n_sub, n_inT, nT, nF, lT, lF, eT, eF, not_false_eq_true, not_true_eq_false, sI_at, sI_c, sI_j, aI_at, aI_c, sL_at, sL_c, sL_j, true_and, and_true, not_true_eq_false, not_false_eq_true, forall_const, true_implies, false_implies, implies_true, if_true, if_false, ite_true, ite_false, Bool.not_eq_true, Bool.not_eq_false, Bool.true_eq_false, Bool.false_eq_true, false_and, and_false, or_true, true_or, false_or, or_false]
      have hm := (ok.2.2.1 k hk).2.1
      refine c_Village_copy (by omega) (fun I1 f1 p1 => ?_)
      have hv := cpV_vil (r0 := 154) (r1 := 1 + 5 + 7 * k) (by omega) (by rw [show 1 + 5 + 7 * k = 2 + 4 + 7 * k by omega]; exact p1) (hc.2.2.1 k hk)
      refine c_give ok (bkC_fr ok (fun a q1 q2 => f1 a (by omega)) hc) (m0 := (B.vl k).m) (by omega) c2 hv.1.2.1 (fun I2 L2 s => ?_)
      have := hy ((tkB_iff ok).mpr ⟨⟨k, hk, rfl⟩, c2⟩) I2 L2 (fun a ha => by rw [s.1 a (by omega) (by omega) (by omega), f1 a (by omega)])
      rw [n_cl (by omega)] at this
      exact this ⟨vilC_fr (fun a q1 q2 => s.1 a (by omega) (by omega) (by omega)) hv, s.2.2.1, s.2.2.2⟩
    · have : tkB B (nI k) a2 = false := by
        cases h : tkB B (nI k) a2 with
        | false => rfl
        | true => exact absurd ((tkB_iff ok).mp h).2 c2
      have := hn this
      simp (disch := first | omega | assumption) only [n_lit, n_gLt, n_gLe, n_gEq, n_gEq2, n_gLe2, n_gLt2, n_m1, n_add, n_mul, n_lt, n_le, n_eq, n_cl, n_in, n_rem, n_mlt, n_mle, n_ltm, n_lem, n_eqm, n_meq, n_bit, n_shl, n_b0, n_b1, n_sub, n_inT, nT, nF, lT, lF, eT, eF, not_false_eq_true, not_true_eq_false, sI_at, sI_c, sI_j, aI_at, aI_c, sL_at, sL_c, sL_j, true_and, and_true, not_true_eq_false, not_false_eq_true, forall_const, true_implies, false_implies, implies_true, if_true, if_false, ite_true, ite_false, Bool.not_eq_true, Bool.not_eq_false, Bool.true_eq_false, Bool.false_eq_true, false_and, and_false, or_true, true_or, false_or, or_false]
      exact this
  · refine c_hasV_n hc.1.1 (by omega) c1 ?_
    have : tkB B a1 a2 = false := by
      cases h : tkB B a1 a2 with
      | false => rfl
      | true => exact absurd ((tkB_iff ok).mp h).1 c1
    have := hn this
    simp (disch := first | omega | assumption) only [n_lit, n_gLt, n_gLe, n_gEq, n_gEq2, n_gLe2, n_gLt2, n_m1, n_add, n_mul, n_lt, n_le, n_eq, n_cl, n_in, n_rem, n_mlt, n_mle, n_ltm, n_lem, n_eqm, n_meq, n_bit, n_shl, n_b0, n_b1, n_sub, n_inT, nT, nF, lT, lF, eT, eF, not_false_eq_true, not_true_eq_false, sI_at, sI_c, sI_j, aI_at, aI_c, sL_at, sL_c, sL_j, true_and, and_true, not_true_eq_false, not_false_eq_true, forall_const, true_implies, false_implies, implies_true, if_true, if_false, ite_true, ite_false, Bool.not_eq_true, Bool.not_eq_false, Bool.true_eq_false, Bool.false_eq_true, false_and, and_false, or_true, true_or, false_or, or_false]
    exact this
theorem n_and2 {x : Int32} {p : Nat} (h : p < 32) : (x &&& nI (2 ^ p) = nI 0) = (bt x p = false) := by
  apply propext
  constructor
  · intro q
    have := congrArg (fun z => bt z p) q
    simp only [b_and, b_2p h, decide_true, Bool.and_true, b_0] at this
    exact this
  · intro q
    apply b_ext
    intro i hi
    rw [b_and, b_2p hi, b_0]
    by_cases c : p = i
    · subst c; rw [q, Bool.false_and]
    · rw [decide_eq_false c, Bool.and_false]
theorem amt_big {t : Tel} (h : t.ok) {s d p : Nat} (hs : s ≤ 1) (hd : 100 ≤ d) : t.amt s d p = 0 := by
  unfold Tel.amt
  refine (sumN_cong (g := fun _ => 0) (fun i hi => ?_)).trans (sumN_zero _)
  rw [if_neg]
  rintro ⟨h1, h2, -⟩
  have := ((h.2 i hi).2.1 (by omega)).1
  omega
theorem wall_big {t : Tel} (h : t.ok) {d k : Nat} (hd : 100 ≤ d) : t.wall d k = false := by
  refine anyN_no.mpr (fun i hi => decide_eq_false ?_)
  rintro ⟨h1, -, -, h2⟩
  have := ((h.2 i hi).2.2 h1).2.2
  omega
theorem amW_out {t : Tel} {x : Wi} (s d p : Nat) : amW t x s d p ≤ t.amt s d p + 18 := by
  unfold amW
  split <;> split <;> (try split) <;> omega
