/-! WHAT COMES IS BROUGHT -/
/-- a side's cell -/
def isR (s r : Nat) : Prop := (s = 0 ∧ r = 166) ∨ (s = 1 ∧ r = 172)
theorem c_side {s r : Nat} (h : isR s r) {b : Bool} {I : MI} {L : ML} {K : Nat → Bool → MI → ML → Prop} (hK : K r b I L) : CT m_Days_side 16 [vr 11 165, vi (nI s)] b I L K := by
  rcases h with ⟨rfl, rfl⟩ | ⟨rfl, rfl⟩
  · exact v_Days_side_0 ⟨fun _ => ⟨rfl, hK⟩, fun q => absurd rfl q⟩
  · exact v_Days_side_0 ⟨fun q => absurd q (by decide), fun _ => ⟨rfl, hK⟩⟩
theorem rowC_side {w : Wd} {e s r : Nat} {I : MI} {L : ML} (h : rowC w e I L) (hr : isR s r) : sideC w s e r I L := by
  rcases hr with ⟨rfl, rfl⟩ | ⟨rfl, rfl⟩
  · exact h.1
  · exact h.2.1
theorem c_delay {v : Vil} {c s k : Nat} {b : Bool} {I : MI} {L : ML} {K : Int32 → Bool → MI → ML → Prop} (h : vilC c v I) (hs : s < 2) (hk : k < v.m) (hm : v.m ≤ 41) (hK : K (nI (v.dl s k)) b I L) : CI m_Village_delay [vr 19 c, vi (nI k), vi (nI s)] b I L K := by
  have e1 := (h.2.2 k hk).2.2.1
  have e2 := h.1.2.2.1
  unfold Vil.dl at hK
  refine v_Village_delay_0 ?_
  rcases (by omega : s = 0 ∨ s = 1) with rfl | rfl
  · rw [Nat.zero_mul, Nat.add_zero] at hK
    simp (disch := first | omega | assumption) only [n_lit, n_gLt, n_gLe, n_gEq, n_gEq2, n_gLe2, n_gLt2, n_m1, n_add, n_mul, n_lt, n_le, n_eq, n_cl, n_in, n_rem, n_mlt, n_mle, n_ltm, n_lem, n_eqm, n_meq, n_bit, n_shl, n_b0, n_b1, n_sub, n_inT, nT, nF, lT, lF, eT, eF, not_false_eq_true, not_true_eq_false, sI_at, sI_c, sI_j, aI_at, aI_c, sL_at, sL_c, sL_j, true_and, and_true, not_true_eq_false, not_false_eq_true, forall_const, true_implies, false_implies, implies_true, if_true, if_false, ite_true, ite_false, Bool.not_eq_true, Bool.not_eq_false, Bool.true_eq_false, Bool.false_eq_true, false_and, and_false, or_true, true_or, false_or, or_false, e1]
    exact hK
  · rw [Nat.one_mul] at hK
    simp (disch := first | omega | assumption) only [n_lit, n_gLt, n_gLe, n_gEq, n_gEq2, n_gLe2, n_gLt2, n_m1, n_add, n_mul, n_lt, n_le, n_eq, n_cl, n_in, n_rem, n_mlt, n_mle, n_ltm, n_lem, n_eqm, n_meq, n_bit, n_shl, n_b0, n_b1, n_sub, n_inT, nT, nF, lT, lF, eT, eF, not_false_eq_true, not_true_eq_false, sI_at, sI_c, sI_j, aI_at, aI_c, sL_at, sL_c, sL_j, true_and, and_true, not_true_eq_false, not_false_eq_true, forall_const, true_implies, false_implies, implies_true, if_true, if_false, ite_true, ite_false, Bool.not_eq_true, Bool.not_eq_false, Bool.true_eq_false, Bool.false_eq_true, false_and, and_false, or_true, true_or, false_or, or_false, e1, e2]
    exact hK
theorem c_went {w : Wd} {s d r k q : Nat} {b : Bool} {I : MI} {L : ML} {K : Int32 → Bool → MI → ML → Prop} (hr : isR s r) (hrow : ∀ e, e < d + 1 → ∀ k, k < 64 → bl (L (r + 3) e) k = (decide (k < w.v.m) && went w s e k)) (hd : d ≤ 200) (hk : k < w.v.m) (hm : w.v.m ≤ 41) (hq : q ≤ 1000) (hq2 : 0 < q ∨ 0 ≤ d) (hK : K (nI (decide (q ≤ d) && went w s (d - q) k).toNat) b I L) : CI m_Side_went [vr 16 r, vi (nI d - nI q), vi (nI k)] b I L K := by
  refine v_Side_went_0 ?_
  by_cases c : q ≤ d
  · have e := hrow (d - q) (by omega) k (by omega)
    rw [decide_eq_true hk, Bool.true_and] at e
    rw [decide_eq_true c, Bool.true_and] at hK
    have e2 := l_cmp (x := L (r + 3) (d - q)) (p := k) (by omega)
    cases hw : went w s (d - q) k with
    | true =>
      rw [e, hw] at e2
      rw [hw] at hK
      simp (disch := first | omega | assumption) only [n_lit, n_gLt, n_gLe, n_gEq, n_gEq2, n_gLe2, n_gLt2, n_m1, n_add, n_mul, n_lt, n_le, n_eq, n_cl, n_in, n_rem, n_mlt, n_mle, n_ltm, n_lem, n_eqm, n_meq, n_bit, n_shl, n_b0, n_b1, n_sub, n_inT, nT, nF, lT, lF, eT, eF, not_false_eq_true, not_true_eq_false, sI_at, sI_c, sI_j, aI_at, aI_c, sL_at, sL_c, sL_j, true_and, and_true, not_true_eq_false, not_false_eq_true, forall_const, true_implies, false_implies, implies_true, if_true, if_false, ite_true, ite_false, Bool.not_eq_true, Bool.not_eq_false, Bool.true_eq_false, Bool.false_eq_true, false_and, and_false, or_true, true_or, false_or, or_false, e2, Bool.toNat_true]
      exact hK
    | false =>
      rw [e, hw] at e2
      rw [hw] at hK
      simp (disch := first | omega | assumption) only [n_lit, n_gLt, n_gLe, n_gEq, n_gEq2, n_gLe2, n_gLt2, n_m1, n_add, n_mul, n_lt, n_le, n_eq, n_cl, n_in, n_rem, n_mlt, n_mle, n_ltm, n_lem, n_eqm, n_meq, n_bit, n_shl, n_b0, n_b1, n_sub, n_inT, nT, nF, lT, lF, eT, eF, not_false_eq_true, not_true_eq_false, sI_at, sI_c, sI_j, aI_at, aI_c, sL_at, sL_c, sL_j, true_and, and_true, not_true_eq_false, not_false_eq_true, forall_const, true_implies, false_implies, implies_true, if_true, if_false, ite_true, ite_false, Bool.not_eq_true, Bool.not_eq_false, Bool.true_eq_false, Bool.false_eq_true, false_and, and_false, or_true, true_or, false_or, or_false, e2, Bool.toNat_false]
      exact hK
  · have e := n_low (show d < q by omega) hq
    rw [decide_eq_false c, Bool.false_and] at hK
    simp (disch := first | omega | assumption) only [n_lit, n_gLt, n_gLe, n_gEq, n_gEq2, n_gLe2, n_gLt2, n_m1, n_add, n_mul, n_lt, n_le, n_eq, n_cl, n_in, n_rem, n_mlt, n_mle, n_ltm, n_lem, n_eqm, n_meq, n_bit, n_shl, n_b0, n_b1, n_sub, n_inT, nT, nF, lT, lF, eT, eF, not_false_eq_true, not_true_eq_false, sI_at, sI_c, sI_j, aI_at, aI_c, sL_at, sL_c, sL_j, true_and, and_true, not_true_eq_false, not_false_eq_true, forall_const, true_implies, false_implies, implies_true, if_true, if_false, ite_true, ite_false, Bool.not_eq_true, Bool.not_eq_false, Bool.true_eq_false, Bool.false_eq_true, false_and, and_false, or_true, true_or, false_or, or_false]
    exact hK
theorem bring_2 {w : Wd} {s d r : Nat} (hr : isR s r) (hd : d ≤ 200) {b : Bool} {I : MI} {L : ML} {K : Bool → MI → ML → Prop} (h : WL w I L) (hrow : ∀ e, e < d → rowC w e I L) (hK : ∀ I', (∀ a, a ≠ r + 4 → I' a = I a) → (∀ j, j < d * 16 ∨ d * 16 + 16 ≤ j → I' (r + 4) j = I (r + 4) j) → (∀ p, p < w.v.n → I' (r + 4) (d * 16 + p) = nI (camS w d (stp w d) s p)) → K b I' L) : ∀ n i, i + n = w.v.m → ∀ I1 : MI, (∀ a, a ≠ r + 4 → I1 a = I a) → (∀ j, j < d * 16 ∨ d * 16 + 16 ≤ j → I1 (r + 4) j = I (r + 4) j) → (∀ p, p < w.v.n → I1 (r + 4) (d * 16 + p) = nI (w.am s d p + sumN (fun t => if (w.v.to t = p ∧ w.v.dl s t ≤ d) ∧ went w s (d - w.v.dl s t) t = true then w.v.st t else 0) i)) → SW m_Run_bring 70 [vr 14 153, vi (nI d), vi (nI s), un, vr 16 r, vi (nI (d * 16)), vi (nI i)] [] b I1 L (kV K) := by
  intro n
  have ok := h.vil.2
  have hm := ok.2.1
  have hn := ok.1.2
  have hs : s < 2 := by rcases hr with ⟨h, _⟩ | ⟨h, _⟩ <;> omega
  have hr4 : r + 4 ≠ 154 ∧ r + 4 ≠ 158 ∧ r + 4 ≠ 159 ∧ r + 4 ≠ 160 := by rcases hr with ⟨_, h⟩ | ⟨_, h⟩ <;> omega
  have hV := h.vil.1
  induction n with
  | zero =>
    intro i hi I1 h1 h2 h3
    obtain rfl : i = w.v.m := by omega
    have e1 : I1 154 3 = nI w.v.m := by rw [h1 154 (by omega)]; exact hV.1.2.1
    refine v_Run_bring_70 ?_
    simp (disch := first | omega | assumption) only [n_lit, n_gLt, n_gLe, n_gEq, n_gEq2, n_gLe2, n_gLt2, n_m1, n_add, n_mul, n_lt, n_le, n_eq, n_cl, n_in, n_rem, n_mlt, n_mle, n_ltm, n_lem, n_eqm, n_meq, n_bit, n_shl, n_b0, n_b1, n_sub, n_inT, nT, nF, lT, lF, eT, eF, not_false_eq_true, not_true_eq_false, sI_at, sI_c, sI_j, aI_at, aI_c, sL_at, sL_c, sL_j, true_and, and_true, not_true_eq_false, not_false_eq_true, forall_const, true_implies, false_implies, implies_true, if_true, if_false, ite_true, ite_false, Bool.not_eq_true, Bool.not_eq_false, Bool.true_eq_false, Bool.false_eq_true, false_and, and_false, or_true, true_or, false_or, or_false, e1]
    refine hK I1 h1 h2 (fun p hp => ?_)
    rw [h3 p hp, ca_hist w s p (fun t ht => (dl_le ok hs ht).1)]
  | succ n ih =>
    intro i hi I1 h1 h2 h3
    have e1 : I1 154 3 = nI w.v.m := by rw [h1 154 (by omega)]; exact hV.1.2.1
    have e158 : I1 158 i = nI (w.v.to i) := by rw [h1 158 (by omega)]; exact (hV.2.2 i (by omega)).2.1
    have e160 : I1 160 i = nI (w.v.st i) := by rw [h1 160 (by omega)]; exact (hV.2.2 i (by omega)).2.2.2
    have hto := (ok.2.2.2.2.2.2 i (by omega)).2.1
    have hdl := dl_le ok hs (t := i) (by omega)
    have hlt := h.amle
    refine v_Run_bring_70 ?_
    simp (disch := first | omega | assumption) only [n_lit, n_gLt, n_gLe, n_gEq, n_gEq2, n_gLe2, n_gLt2, n_m1, n_add, n_mul, n_lt, n_le, n_eq, n_cl, n_in, n_rem, n_mlt, n_mle, n_ltm, n_lem, n_eqm, n_meq, n_bit, n_shl, n_b0, n_b1, n_sub, n_inT, nT, nF, lT, lF, eT, eF, not_false_eq_true, not_true_eq_false, sI_at, sI_c, sI_j, aI_at, aI_c, sL_at, sL_c, sL_j, true_and, and_true, not_true_eq_false, not_false_eq_true, forall_const, true_implies, false_implies, implies_true, if_true, if_false, ite_true, ite_false, Bool.not_eq_true, Bool.not_eq_false, Bool.true_eq_false, Bool.false_eq_true, false_and, and_false, or_true, true_or, false_or, or_false, e1]
    have hV1 : vilC 154 w.v I1 := vilC_fr (fun a c1 c2 => h1 a (by rcases hr with ⟨_, h⟩ | ⟨_, h⟩ <;> omega)) hV
    refine c_delay hV1 hs (by omega) hm ?_
    have hbits : ∀ e, e < d → ∀ k, k < 64 → bl (L (r + 3) e) k = (decide (k < w.v.m) && went w s e k) := fun e he => (rowC_side (hrow e he) hr).2.2.1
    have fin : SW m_Run_bring 70 [vr 14 153, vi (nI d), vi (nI s), un, vr 16 r, vi (nI (d * 16)), vi (nI (i + 1))] [] b (if (decide (w.v.dl s i ≤ d) && went w s (d - w.v.dl s i) i) = true then sI I1 (r + 4) (d * 16 + w.v.to i) (nI (w.am s d (w.v.to i) + sumN (fun t => if (w.v.to t = w.v.to i ∧ w.v.dl s t ≤ d) ∧ went w s (d - w.v.dl s t) t = true then w.v.st t else 0) i + w.v.st i)) else I1) L (kV K) := by
      by_cases c : (decide (w.v.dl s i ≤ d) && went w s (d - w.v.dl s i) i) = true
      · rw [if_pos c]
        rw [Bool.and_eq_true, decide_eq_true_iff] at c
        refine ih (i + 1) (by omega) _ (fun a ha => by rw [sI_c ha, h1 a ha]) (fun j hj => ?_) (fun p hp => ?_)
        · rw [sI_j (by omega)]; exact h2 j hj
        · by_cases e : p = w.v.to i
          · subst e
            rw [sI_at]
            show _ = nI (_ + (sumN _ i + (if _ then _ else 0)))
            rw [if_pos ⟨⟨rfl, c.1⟩, c.2⟩, Nat.add_assoc]
          · rw [sI_j (by omega), h3 p hp]
            show _ = nI (_ + (sumN _ i + (if _ then _ else 0)))
            rw [if_neg (fun q => e q.1.1.symm), Nat.add_zero]
      · rw [if_neg c]
        refine ih (i + 1) (by omega) I1 h1 h2 (fun p hp => ?_)
        rw [h3 p hp]
        show _ = nI (_ + (sumN _ i + (if _ then _ else 0)))
        rw [if_neg (fun q => c (by rw [Bool.and_eq_true, decide_eq_true_iff]; exact ⟨q.1.2, q.2⟩)), Nat.add_zero]
    have hw : ∀ K' : Int32 → Bool → MI → ML → Prop, K' (nI (decide (w.v.dl s i ≤ d) && went w s (d - w.v.dl s i) i).toNat) b I1 L → CI m_Side_went [vr 16 r, vi (nI d - nI (w.v.dl s i)), vi (nI i)] b I1 L K' := by
      intro K' k
      by_cases c : w.v.dl s i ≤ d
      · have := hbits (d - w.v.dl s i) (by omega) i (by omega)
        refine v_Side_went_0 ?_
        rw [decide_eq_true (by omega : i < w.v.m), Bool.true_and] at this
        rw [decide_eq_true c, Bool.true_and] at k
        have e2 := l_cmp (x := L (r + 3) (d - w.v.dl s i)) (p := i) (by omega)
        cases hw : went w s (d - w.v.dl s i) i with
        | true =>
          rw [this, hw] at e2
          rw [hw] at k
          simp (disch := first | omega | assumption) only [n_lit, n_gLt, n_gLe, n_gEq, n_gEq2, n_gLe2, n_gLt2, n_m1, n_add, n_mul, n_lt, n_le, n_eq, n_cl, n_in, n_rem, n_mlt, n_mle, n_ltm, n_lem, n_eqm, n_meq, n_bit, n_shl, n_b0, n_b1, n_sub, n_inT, nT, nF, lT, lF, eT, eF, not_false_eq_true, not_true_eq_false, sI_at, sI_c, sI_j, aI_at, aI_c, sL_at, sL_c, sL_j, true_and, and_true, not_true_eq_false, not_false_eq_true, forall_const, true_implies, false_implies, implies_true, if_true, if_false, ite_true, ite_false, Bool.not_eq_true, Bool.not_eq_false, Bool.true_eq_false, Bool.false_eq_true, false_and, and_false, or_true, true_or, false_or, or_false, e2, Bool.toNat_true]
          exact k
        | false =>
          rw [this, hw] at e2
          rw [hw] at k
          simp (disch := first | omega | assumption) only [n_lit, n_gLt, n_gLe, n_gEq, n_gEq2, n_gLe2, n_gLt2, n_m1, n_add, n_mul, n_lt, n_le, n_eq, n_cl, n_in, n_rem, n_mlt, n_mle, n_ltm, n_lem, n_eqm, n_meq, n_bit, n_shl, n_b0, n_b1, n_sub, n_inT, nT, nF, lT, lF, eT, eF, not_false_eq_true, not_true_eq_false, sI_at, sI_c, sI_j, aI_at, aI_c, sL_at, sL_c, sL_j, true_and, and_true, not_true_eq_false, not_false_eq_true, forall_const, true_implies, false_implies, implies_true, if_true, if_false, ite_true, ite_false, Bool.not_eq_true, Bool.not_eq_false, Bool.true_eq_false, Bool.false_eq_true, false_and, and_false, or_true, true_or, false_or, or_false, e2, Bool.toNat_false]
          exact k
      · have e := n_low (show d < w.v.dl s i by omega) (by omega)
        rw [decide_eq_false c, Bool.false_and] at k
        refine v_Side_went_0 ?_
        simp (disch := first | omega | assumption) only [n_lit, n_gLt, n_gLe, n_gEq, n_gEq2, n_gLe2, n_gLt2, n_m1, n_add, n_mul, n_lt, n_le, n_eq, n_cl, n_in, n_rem, n_mlt, n_mle, n_ltm, n_lem, n_eqm, n_meq, n_bit, n_shl, n_b0, n_b1, n_sub, n_inT, nT, nF, lT, lF, eT, eF, not_false_eq_true, not_true_eq_false, sI_at, sI_c, sI_j, aI_at, aI_c, sL_at, sL_c, sL_j, true_and, and_true, not_true_eq_false, not_false_eq_true, forall_const, true_implies, false_implies, implies_true, if_true, if_false, ite_true, ite_false, Bool.not_eq_true, Bool.not_eq_false, Bool.true_eq_false, Bool.false_eq_true, false_and, and_false, or_true, true_or, false_or, or_false]
        exact k
    refine hw _ ?_
    cases c : (decide (w.v.dl s i ≤ d) && went w s (d - w.v.dl s i) i) with
    | true =>
      rw [c, if_pos rfl] at fin
      have e3 := h3 (w.v.to i) hto
      simp (disch := first | omega | assumption) only [n_lit, n_gLt, n_gLe, n_gEq, n_gEq2, n_gLe2, n_gLt2, n_m1, n_add, n_mul, n_lt, n_le, n_eq, n_cl, n_in, n_rem, n_mlt, n_mle, n_ltm, n_lem, n_eqm, n_meq, n_bit, n_shl, n_b0, n_b1, n_sub, n_inT, nT, nF, lT, lF, eT, eF, not_false_eq_true, not_true_eq_false, sI_at, sI_c, sI_j, aI_at, aI_c, sL_at, sL_c, sL_j, true_and, and_true, not_true_eq_false, not_false_eq_true, forall_const, true_implies, false_implies, implies_true, if_true, if_false, ite_true, ite_false, Bool.not_eq_true, Bool.not_eq_false, Bool.true_eq_false, Bool.false_eq_true, false_and, and_false, or_true, true_or, false_or, or_false, Bool.toNat_true, e158, e160, e3, Nat.add_assoc]
      rw [Nat.add_assoc] at fin
      exact fin
    | false =>
      rw [c, if_neg (by simp)] at fin
      simp (disch := first | omega | assumption) only [n_lit, n_gLt, n_gLe, n_gEq, n_gEq2, n_gLe2, n_gLt2, n_m1, n_add, n_mul, n_lt, n_le, n_eq, n_cl, n_in, n_rem, n_mlt, n_mle, n_ltm, n_lem, n_eqm, n_meq, n_bit, n_shl, n_b0, n_b1, n_sub, n_inT, nT, nF, lT, lF, eT, eF, not_false_eq_true, not_true_eq_false, sI_at, sI_c, sI_j, aI_at, aI_c, sL_at, sL_c, sL_j, true_and, and_true, not_true_eq_false, not_false_eq_true, forall_const, true_implies, false_implies, implies_true, if_true, if_false, ite_true, ite_false, Bool.not_eq_true, Bool.not_eq_false, Bool.true_eq_false, Bool.false_eq_true, false_and, and_false, or_true, true_or, false_or, or_false, Bool.toNat_false]
      exact fin
theorem c_bring {w : Wd} {s d r : Nat} {o : Int32} (hr : isR s r) (hd : d ≤ 200) {b : Bool} {I : MI} {L : ML} {K : Bool → MI → ML → Prop} (h : WL w I L) (hrow : ∀ e, e < d → rowC w e I L) (ho : (o = nI 0 ∧ w.la < d) ∨ (o = nI 1 ∧ d ≤ w.la)) (hK : ∀ I', (∀ a, a ≠ r + 4 → I' a = I a) → (∀ j, j < d * 16 ∨ d * 16 + 16 ≤ j → I' (r + 4) j = I (r + 4) j) → (∀ p, p < w.v.n → I' (r + 4) (d * 16 + p) = nI (camS w d (stp w d) s p)) → K b I' L) : CV m_Run_bring [vr 14 153, vi (nI d), vi (nI s), vi o] b I L K := by
  have ok := h.vil.2
  have hn := ok.1.2
  have hs : s < 2 := by rcases hr with ⟨h, _⟩ | ⟨h, _⟩ <;> omega
  have hV := h.vil.1
  have loop : ∀ n i, i + n = w.v.n → ∀ I1 : MI, (∀ a, a ≠ r + 4 → I1 a = I a) → (∀ j, j < d * 16 ∨ d * 16 + 16 ≤ j → I1 (r + 4) j = I (r + 4) j) → (∀ p, p < i → I1 (r + 4) (d * 16 + p) = nI (w.am s d p)) → SW m_Run_bring 19 [vr 14 153, vi (nI d), vi (nI s), vi o, vr 16 r, vi (nI (d * 16)), vi (nI i)] [] b I1 L (kV K) := by
    intro n
    induction n with
    | zero =>
      intro i hi I1 h1 h2 h3
      obtain rfl : i = w.v.n := by omega
      have e1 : I1 154 0 = nI w.v.n := by rw [h1 154 (by rcases hr with ⟨_, h⟩ | ⟨_, h⟩ <;> omega)]; exact hV.1.1
      refine v_Run_bring_19 ?_
      simp (disch := first | omega | assumption) only [n_lit, n_gLt, n_gLe, n_gEq, n_gEq2, n_gLe2, n_gLt2, n_m1, n_add, n_mul, n_lt, n_le, n_eq, n_cl, n_in, n_rem, n_mlt, n_mle, n_ltm, n_lem, n_eqm, n_meq, n_bit, n_shl, n_b0, n_b1, n_sub, n_inT, nT, nF, lT, lF, eT, eF, not_false_eq_true, not_true_eq_false, sI_at, sI_c, sI_j, aI_at, aI_c, sL_at, sL_c, sL_j, true_and, and_true, not_true_eq_false, not_false_eq_true, forall_const, true_implies, false_implies, implies_true, if_true, if_false, ite_true, ite_false, Bool.not_eq_true, Bool.not_eq_false, Bool.true_eq_false, Bool.false_eq_true, false_and, and_false, or_true, true_or, false_or, or_false, e1]
      exact bring_2 hr hd h hrow hK w.v.m 0 (by omega) I1 h1 h2 h3
    | succ n ih =>
      intro i hi I1 h1 h2 h3
      have e1 : I1 154 0 = nI w.v.n := by rw [h1 154 (by rcases hr with ⟨_, h⟩ | ⟨_, h⟩ <;> omega)]; exact hV.1.1
      have next : SW m_Run_bring 19 [vr 14 153, vi (nI d), vi (nI s), vi o, vr 16 r, vi (nI (d * 16)), vi (nI (i + 1))] [] b (sI I1 (r + 4) (d * 16 + i) (nI (w.am s d i))) L (kV K) := by
        refine ih (i + 1) (by omega) _ (fun a ha => by rw [sI_c ha, h1 a ha]) (fun j hj => ?_) (fun p hp => ?_)
        · rw [sI_j (by omega)]; exact h2 j hj
        · by_cases e : p = i
          · subst e; exact sI_at _ _ _ _
          · rw [sI_j (by omega)]; exact h3 p (by omega)
      refine v_Run_bring_19 ?_
      rcases ho with ⟨rfl, h4⟩ | ⟨rfl, h4⟩
      · rw [h.late (s := s) (by omega) (by omega) h4] at next
        simp (disch := first | omega | assumption) only [n_lit, n_gLt, n_gLe, n_gEq, n_gEq2, n_gLe2, n_gLt2, n_m1, n_add, n_mul, n_lt, n_le, n_eq, n_cl, n_in, n_rem, n_mlt, n_mle, n_ltm, n_lem, n_eqm, n_meq, n_bit, n_shl, n_b0, n_b1, n_sub, n_inT, nT, nF, lT, lF, eT, eF, not_false_eq_true, not_true_eq_false, sI_at, sI_c, sI_j, aI_at, aI_c, sL_at, sL_c, sL_j, true_and, and_true, not_true_eq_false, not_false_eq_true, forall_const, true_implies, false_implies, implies_true, if_true, if_false, ite_true, ite_false, Bool.not_eq_true, Bool.not_eq_false, Bool.true_eq_false, Bool.false_eq_true, false_and, and_false, or_true, true_or, false_or, or_false, e1]
        exact next
      · simp (disch := first | omega | assumption) only [n_lit, n_gLt, n_gLe, n_gEq, n_gEq2, n_gLe2, n_gLt2, n_m1, n_add, n_mul, n_lt, n_le, n_eq, n_cl, n_in, n_rem, n_mlt, n_mle, n_ltm, n_lem, n_eqm, n_meq, n_bit, n_shl, n_b0, n_b1, n_sub, n_inT, nT, nF, lT, lF, eT, eF, not_false_eq_true, not_true_eq_false, sI_at, sI_c, sI_j, aI_at, aI_c, sL_at, sL_c, sL_j, true_and, and_true, not_true_eq_false, not_false_eq_true, forall_const, true_implies, false_implies, implies_true, if_true, if_false, ite_true, ite_false, Bool.not_eq_true, Bool.not_eq_false, Bool.true_eq_false, Bool.false_eq_true, false_and, and_false, or_true, true_or, false_or, or_false, e1]
        refine cw_amount (h.fr (fun a c1 c2 => h1 a (by rcases hr with ⟨_, h⟩ | ⟨_, h⟩ <;> omega)) (fun a _ => rfl)) (by omega) hd (by omega) ?_
        exact next
  refine v_Run_bring_0 (c_side hr ?_)
  simp (disch := first | omega | assumption) only [n_lit, n_gLt, n_gLe, n_gEq, n_gEq2, n_gLe2, n_gLt2, n_m1, n_add, n_mul, n_lt, n_le, n_eq, n_cl, n_in, n_rem, n_mlt, n_mle, n_ltm, n_lem, n_eqm, n_meq, n_bit, n_shl, n_b0, n_b1, n_sub, n_inT, nT, nF, lT, lF, eT, eF, not_false_eq_true, not_true_eq_false, sI_at, sI_c, sI_j, aI_at, aI_c, sL_at, sL_c, sL_j, true_and, and_true, not_true_eq_false, not_false_eq_true, forall_const, true_implies, false_implies, implies_true, if_true, if_false, ite_true, ite_false, Bool.not_eq_true, Bool.not_eq_false, Bool.true_eq_false, Bool.false_eq_true, false_and, and_false, or_true, true_or, false_or, or_false]
  exact loop w.v.n 0 (by omega) I (fun _ _ => rfl) (fun _ _ => rfl) (fun p hp => by omega)
