/-! WHAT IS TO COME IS THE SAME, in the class's cells; the ring is found -/
theorem c_wentX {r k : Nat} {X : Int32} {val : Bool} {b : Bool} {I : MI} {L : ML} {K : Int32 → Bool → MI → ML → Prop} (hk : k < 64) (hX : (X < nI 0 ∧ val = false) ∨ ∃ e, e ≤ 200 ∧ X = nI e ∧ bl (L (r + 3) e) k = val) (hK : K (nI val.toNat) b I L) : CI m_Side_went [vr 16 r, vi X, vi (nI k)] b I L K := by
  refine v_Side_went_0 ?_
  rcases hX with ⟨h, rfl⟩ | ⟨e, he, rfl, rfl⟩
  · simp (disch := first | omega | assumption) only [n_lit, n_gLt, n_gLe, n_gEq, n_gEq2, n_gLe2, n_gLt2, n_m1, n_add, n_mul, n_lt, n_le, n_eq, n_cl, n_in, n_rem, n_mlt, n_mle, n_ltm, n_lem, n_eqm, n_meq, n_bit, n_shl, n_b0, n_b1, n_sub, n_inT, nT, nF, lT, lF, eT, eF, not_false_eq_true, not_true_eq_false, sI_at, sI_c, sI_j, aI_at, aI_c, sL_at, sL_c, sL_j, true_and, and_true, not_true_eq_false, not_false_eq_true, forall_const, true_implies, false_implies, implies_true, if_true, if_false, ite_true, ite_false, Bool.not_eq_true, Bool.not_eq_false, Bool.true_eq_false, Bool.false_eq_true, false_and, and_false, or_true, true_or, false_or, or_false]
    exact hK
  · have e2 := l_cmp (x := L (r + 3) e) (p := k) hk
    cases hw : bl (L (r + 3) e) k with
    | true =>
      rw [hw] at e2 hK
      simp (disch := first | omega | assumption) only [n_lit, n_gLt, n_gLe, n_gEq, n_gEq2, n_gLe2, n_gLt2, n_m1, n_add, n_mul, n_lt, n_le, n_eq, n_cl, n_in, n_rem, n_mlt, n_mle, n_ltm, n_lem, n_eqm, n_meq, n_bit, n_shl, n_b0, n_b1, n_sub, n_inT, nT, nF, lT, lF, eT, eF, not_false_eq_true, not_true_eq_false, sI_at, sI_c, sI_j, aI_at, aI_c, sL_at, sL_c, sL_j, true_and, and_true, not_true_eq_false, not_false_eq_true, forall_const, true_implies, false_implies, implies_true, if_true, if_false, ite_true, ite_false, Bool.not_eq_true, Bool.not_eq_false, Bool.true_eq_false, Bool.false_eq_true, false_and, and_false, or_true, true_or, false_or, or_false, e2, Bool.toNat_true]
      exact hK
    | false =>
      rw [hw] at e2 hK
      simp (disch := first | omega | assumption) only [n_lit, n_gLt, n_gLe, n_gEq, n_gEq2, n_gLe2, n_gLt2, n_m1, n_add, n_mul, n_lt, n_le, n_eq, n_cl, n_in, n_rem, n_mlt, n_mle, n_ltm, n_lem, n_eqm, n_meq, n_bit, n_shl, n_b0, n_b1, n_sub, n_inT, nT, nF, lT, lF, eT, eF, not_false_eq_true, not_true_eq_false, sI_at, sI_c, sI_j, aI_at, aI_c, sL_at, sL_c, sL_j, true_and, and_true, not_true_eq_false, not_false_eq_true, forall_const, true_implies, false_implies, implies_true, if_true, if_false, ite_true, ite_false, Bool.not_eq_true, Bool.not_eq_false, Bool.true_eq_false, Bool.false_eq_true, false_and, and_false, or_true, true_or, false_or, or_false, e2, Bool.toNat_false]
      exact hK
/-- of one tie, what is still to come by it so many days ahead -/
def dueT (w : Wd) (s d k p t : Nat) : Nat := if (w.v.to t = p ∧ k ≤ w.v.dl s t ∧ w.v.dl s t ≤ d + k) ∧ went w s (d + k - w.v.dl s t) t = true then w.v.st t else 0
theorem du_T (w : Wd) (s p d k : Nat) : (stt w d).du s k p = sumN (dueT w s d k p) w.v.m := du_hist w s p d k
theorem dueT_le {w : Wd} (ok : w.v.ok 41) (s d k p : Nat) {n : Nat} (hn : n ≤ w.v.m) : sumN (dueT w s d k p) n ≤ 369 := by
  have := sumN_le (f := dueT w s d k p) (c := 9) (n := n) (fun i hi => by
    have := (ok.2.2.2.2.2.2 i (by omega)).2.2.2.2.2
    unfold dueT
    split <;> omega)
  have := ok.2.1
  omega
theorem c_awaits {w : Wd} {s r x y : Nat} (hr : isR s r) (hx : x ≤ 200) (hy : y ≤ 200) {b : Bool} {I : MI} {L : ML} {K : Int32 → Bool → MI → ML → Prop} (h : WL w I L) (hrow : ∀ e, e ≤ x ∨ e ≤ y → ∀ k, k < 64 → bl (L (r + 3) e) k = (decide (k < w.v.m) && went w s e k)) (hK : ∀ I', (∀ a, a ≠ 180 → I' a = I a) → K (nI (alD w s (stt w x) (stt w y)).toNat) b I' L) : CI m_Run_awaitsSame [vr 14 153, vi (nI x), vi (nI y), vi (nI s)] b I L K := by
  have ok := h.vil.2
  have hm := ok.2.1
  have hn := ok.1.2
  have hs : s < 2 := by rcases hr with ⟨h, _⟩ | ⟨h, _⟩ <;> omega
  have hV := h.vil.1
  have hno : ∀ k p, 1 ≤ k → k ≤ 6 → p < w.v.n → (stt w x).du s k p ≠ (stt w y).du s k p → alD w s (stt w x) (stt w y) = false := by
    intro k p h1 h2 hp hne
    cases hal : alD w s (stt w x) (stt w y) with
    | false => rfl
    | true =>
      have := of_decide_eq_true (allN_iff.mp (allN_iff.mp hal (k - 1) (by omega)) p hp)
      rw [show k - 1 + 1 = k by omega] at this
      exact absurd this hne
  -- days ahead, from the last one on
  have loopA : ∀ n k, k + n = 7 → 1 ≤ k → (∀ j, 1 ≤ j → j < k → ∀ p, p < w.v.n → (stt w x).du s j p = (stt w y).du s j p) → ∀ I1 : MI, (∀ a, a ≠ 180 → I1 a = I a) → SW m_Run_awaitsSame 13 [vr 14 153, vi (nI x), vi (nI y), vi (nI s), vr 16 r, vi (nI k), un, un, un, un] [] b I1 L (kI K) := by
    intro n
    induction n with
    | zero =>
      intro k hk k1 heq I1 h1
      obtain rfl : k = 7 := by omega
      have : alD w s (stt w x) (stt w y) = true := by
        unfold alD
        rw [allN_iff]
        intro j hj
        rw [allN_iff]
        exact fun p hp => decide_eq_true (heq (j + 1) (by omega) (by omega) p hp)
      have hK := hK I1 h1
      rw [this] at hK
      refine v_Run_awaitsSame_13 ?_
      simp (disch := first | omega | assumption) only [n_lit, n_gLt, n_gLe, n_gEq, n_gEq2, n_gLe2, n_gLt2, n_m1, n_add, n_mul, n_lt, n_le, n_eq, n_cl, n_in, n_rem, n_mlt, n_mle, n_ltm, n_lem, n_eqm, n_meq, n_bit, n_shl, n_b0, n_b1, n_sub, n_inT, nT, nF, lT, lF, eT, eF, not_false_eq_true, not_true_eq_false, sI_at, sI_c, sI_j, aI_at, aI_c, sL_at, sL_c, sL_j, true_and, and_true, not_true_eq_false, not_false_eq_true, forall_const, true_implies, false_implies, implies_true, if_true, if_false, ite_true, ite_false, Bool.not_eq_true, Bool.not_eq_false, Bool.true_eq_false, Bool.false_eq_true, false_and, and_false, or_true, true_or, false_or, or_false]
      exact hK
    | succ n ih =>
      intro k hk k1 heq I1 h1
      refine v_Run_awaitsSame_13 ?_
      simp (disch := first | omega | assumption) only [n_lit, n_gLt, n_gLe, n_gEq, n_gEq2, n_gLe2, n_gLt2, n_m1, n_add, n_mul, n_lt, n_le, n_eq, n_cl, n_in, n_rem, n_mlt, n_mle, n_ltm, n_lem, n_eqm, n_meq, n_bit, n_shl, n_b0, n_b1, n_sub, n_inT, nT, nF, lT, lF, eT, eF, not_false_eq_true, not_true_eq_false, sI_at, sI_c, sI_j, aI_at, aI_c, sL_at, sL_c, sL_j, true_and, and_true, not_true_eq_false, not_false_eq_true, forall_const, true_implies, false_implies, implies_true, if_true, if_false, ite_true, ite_false, Bool.not_eq_true, Bool.not_eq_false, Bool.true_eq_false, Bool.false_eq_true, false_and, and_false, or_true, true_or, false_or, or_false]
      refine c_fillB (fun I2 f1 f2 => ?_)
      have h2 : ∀ a, a ≠ 180 → I2 a = I a := fun a ha => (f1 a ha).trans (h1 a ha)
      -- the persons behind the ties
      have loopP : ∀ m i, i + m = w.v.n → (∀ p, p < i → (stt w x).du s k p = (stt w y).du s k p) → ∀ I3 : MI, (∀ a, a ≠ 180 → I3 a = I a) → (∀ p, p < 16 → I3 180 p = zI (((stt w x).du s k p : Int) - (stt w y).du s k p)) → SW m_Run_awaitsSame 173 [vr 14 153, vi (nI x), vi (nI y), vi (nI s), vr 16 r, vi (nI k), vi (nI i), un, un, un] [] b I3 L (kI K) := by
        intro m
        induction m with
        | zero =>
          intro i hi hq I3 g1 g2
          obtain rfl : i = w.v.n := by omega
          have e1 : I3 154 0 = nI w.v.n := by rw [g1 154 (by decide)]; exact hV.1.1
          refine v_Run_awaitsSame_173 ?_
          simp (disch := first | omega | assumption) only [n_lit, n_gLt, n_gLe, n_gEq, n_gEq2, n_gLe2, n_gLt2, n_m1, n_add, n_mul, n_lt, n_le, n_eq, n_cl, n_in, n_rem, n_mlt, n_mle, n_ltm, n_lem, n_eqm, n_meq, n_bit, n_shl, n_b0, n_b1, n_sub, n_inT, nT, nF, lT, lF, eT, eF, not_false_eq_true, not_true_eq_false, sI_at, sI_c, sI_j, aI_at, aI_c, sL_at, sL_c, sL_j, true_and, and_true, not_true_eq_false, not_false_eq_true, forall_const, true_implies, false_implies, implies_true, if_true, if_false, ite_true, ite_false, Bool.not_eq_true, Bool.not_eq_false, Bool.true_eq_false, Bool.false_eq_true, false_and, and_false, or_true, true_or, false_or, or_false, e1]
          refine ih (k + 1) (by omega) (by omega) (fun j j1 j2 p hp => ?_) I3 g1
          by_cases e : j = k
          · subst e; exact hq p hp
          · exact heq j j1 (by omega) p hp
        | succ m ihm =>
          intro i hi hq I3 g1 g2
          have e1 : I3 154 0 = nI w.v.n := by rw [g1 154 (by decide)]; exact hV.1.1
          have e2 := g2 i (by omega)
          have b1 : (stt w x).du s k i ≤ 369 := by rw [du_T]; exact dueT_le ok s x k i (Nat.le_refl _)
          have b2 : (stt w y).du s k i ≤ 369 := by rw [du_T]; exact dueT_le ok s y k i (Nat.le_refl _)
          have hz : (nI 0 : Int32) = zI 0 := rfl
          refine v_Run_awaitsSame_173 ?_
          by_cases c : (stt w x).du s k i = (stt w y).du s k i
          · have p1 : (zI (((stt w x).du s k i : Int) - (stt w y).du s k i) = nI 0) = True := by rw [hz, z_eq (by omega) (by omega) (by omega) (by omega)]; exact eq_true (by omega)
            simp (disch := first | omega | assumption) only [n_lit, n_gLt, n_gLe, n_gEq, n_gEq2, n_gLe2, n_gLt2, n_m1, n_add, n_mul, n_lt, n_le, n_eq, n_cl, n_in, n_rem, n_mlt, n_mle, n_ltm, n_lem, n_eqm, n_meq, n_bit, n_shl, n_b0, n_b1, n_sub, n_inT, nT, nF, lT, lF, eT, eF, not_false_eq_true, not_true_eq_false, sI_at, sI_c, sI_j, aI_at, aI_c, sL_at, sL_c, sL_j, true_and, and_true, not_true_eq_false, not_false_eq_true, forall_const, true_implies, false_implies, implies_true, if_true, if_false, ite_true, ite_false, Bool.not_eq_true, Bool.not_eq_false, Bool.true_eq_false, Bool.false_eq_true, false_and, and_false, or_true, true_or, false_or, or_false, e1, e2, p1]
            refine ihm (i + 1) (by omega) (fun p hp => ?_) I3 g1 g2
            by_cases e : p = i
            · subst e; exact c
            · exact hq p (by omega)
          · have p1 : (zI (((stt w x).du s k i : Int) - (stt w y).du s k i) = nI 0) = False := by rw [hz, z_eq (by omega) (by omega) (by omega) (by omega)]; exact eq_false (by omega)
            have hK := hK I3 g1
            rw [hno k i k1 (by omega) (by omega) c] at hK
            simp (disch := first | omega | assumption) only [n_lit, n_gLt, n_gLe, n_gEq, n_gEq2, n_gLe2, n_gLt2, n_m1, n_add, n_mul, n_lt, n_le, n_eq, n_cl, n_in, n_rem, n_mlt, n_mle, n_ltm, n_lem, n_eqm, n_meq, n_bit, n_shl, n_b0, n_b1, n_sub, n_inT, nT, nF, lT, lF, eT, eF, not_false_eq_true, not_true_eq_false, sI_at, sI_c, sI_j, aI_at, aI_c, sL_at, sL_c, sL_j, true_and, and_true, not_true_eq_false, not_false_eq_true, forall_const, true_implies, false_implies, implies_true, if_true, if_false, ite_true, ite_false, Bool.not_eq_true, Bool.not_eq_false, Bool.true_eq_false, Bool.false_eq_true, false_and, and_false, or_true, true_or, false_or, or_false, e1, e2, p1]
            exact hK
      -- the ties
      have loopT : ∀ m i, i + m = w.v.m → ∀ I3 : MI, (∀ a, a ≠ 180 → I3 a = I a) → (∀ p, p < 16 → I3 180 p = zI ((sumN (dueT w s x k p) i : Int) - sumN (dueT w s y k p) i)) → SW m_Run_awaitsSame 31 [vr 14 153, vi (nI x), vi (nI y), vi (nI s), vr 16 r, vi (nI k), vi (nI i), un, un, un] [] b I3 L (kI K) := by
        intro m
        induction m with
        | zero =>
          intro i hi I3 g1 g2
          obtain rfl : i = w.v.m := by omega
          have e1 : I3 154 3 = nI w.v.m := by rw [g1 154 (by decide)]; exact hV.1.2.1
          refine v_Run_awaitsSame_31 ?_
          simp (disch := first | omega | assumption) only [n_lit, n_gLt, n_gLe, n_gEq, n_gEq2, n_gLe2, n_gLt2, n_m1, n_add, n_mul, n_lt, n_le, n_eq, n_cl, n_in, n_rem, n_mlt, n_mle, n_ltm, n_lem, n_eqm, n_meq, n_bit, n_shl, n_b0, n_b1, n_sub, n_inT, nT, nF, lT, lF, eT, eF, not_false_eq_true, not_true_eq_false, sI_at, sI_c, sI_j, aI_at, aI_c, sL_at, sL_c, sL_j, true_and, and_true, not_true_eq_false, not_false_eq_true, forall_const, true_implies, false_implies, implies_true, if_true, if_false, ite_true, ite_false, Bool.not_eq_true, Bool.not_eq_false, Bool.true_eq_false, Bool.false_eq_true, false_and, and_false, or_true, true_or, false_or, or_false, e1]
          exact loopP w.v.n 0 (by omega) (fun p hp => by omega) I3 g1 (fun p hp => by rw [g2 p hp, du_T, du_T])
        | succ m ihm =>
          intro i hi I3 g1 g2
          have e1 : I3 154 3 = nI w.v.m := by rw [g1 154 (by decide)]; exact hV.1.2.1
          have e158 : I3 158 i = nI (w.v.to i) := by rw [g1 158 (by decide)]; exact (hV.2.2 i (by omega)).2.1
          have e160 : I3 160 i = nI (w.v.st i) := by rw [g1 160 (by decide)]; exact (hV.2.2 i (by omega)).2.2.2
          have hto := (ok.2.2.2.2.2.2 i (by omega)).2.1
          have hdl := dl_le ok hs (t := i) (by omega)
          have e180 := g2 (w.v.to i) (by omega)
          -- one more tie
          have nxt : ∀ (I4 : MI) (u v : Bool), (∀ a, a ≠ 180 → I4 a = I3 a) → (∀ p, p ≠ w.v.to i → I4 180 p = I3 180 p) → (∀ p, dueT w s x k p i = if w.v.to i = p ∧ u = true then w.v.st i else 0) → (∀ p, dueT w s y k p i = if w.v.to i = p ∧ v = true then w.v.st i else 0) → I4 180 (w.v.to i) = zI (((sumN (dueT w s x k (w.v.to i)) i : Int) - sumN (dueT w s y k (w.v.to i)) i) + ((if u = true then (w.v.st i : Int) else 0) - (if v = true then (w.v.st i : Int) else 0))) → SW m_Run_awaitsSame 31 [vr 14 153, vi (nI x), vi (nI y), vi (nI s), vr 16 r, vi (nI k), vi (nI (i + 1)), un, un, un] [] b I4 L (kI K) := by
            intro I4 u v q1 q2 q3 q4 q5
            refine ihm (i + 1) (by omega) I4 (fun a ha => (q1 a ha).trans (g1 a ha)) (fun p hp => ?_)
            show _ = zI (((sumN (dueT w s x k p) i + dueT w s x k p i : Nat) : Int) - (sumN (dueT w s y k p) i + dueT w s y k p i : Nat))
            rw [q3 p, q4 p]
            by_cases e : p = w.v.to i
            · subst e
              rw [q5]
              congr 1
              cases u <;> cases v <;> simp <;> omega
            · rw [if_neg (fun q => e q.1.symm), if_neg (fun q => e q.1.symm), q2 p e, g2 p hp]
              rfl
          have dT : ∀ d, ∀ p, ¬ k ≤ w.v.dl s i → dueT w s d k p i = if w.v.to i = p ∧ false = true then w.v.st i else 0 := fun d p hc => by
            unfold dueT
            rw [if_neg (by omega), if_neg (by simp)]
          have dT2 : ∀ d p, k ≤ w.v.dl s i → dueT w s d k p i = if w.v.to i = p ∧ (decide (w.v.dl s i ≤ d + k) && went w s (d + k - w.v.dl s i) i) = true then w.v.st i else 0 := fun d p hc => by
            unfold dueT
            by_cases q : w.v.to i = p ∧ (decide (w.v.dl s i ≤ d + k) && went w s (d + k - w.v.dl s i) i) = true
            · rw [if_pos q]
              obtain ⟨q1, q2⟩ := q
              rw [Bool.and_eq_true, decide_eq_true_iff] at q2
              rw [if_pos ⟨⟨q1, hc, q2.1⟩, q2.2⟩]
            · rw [if_neg q, if_neg]
              rintro ⟨⟨q1, -, q2⟩, q3⟩
              exact q ⟨q1, by rw [Bool.and_eq_true, decide_eq_true_iff]; exact ⟨q2, q3⟩⟩
          refine v_Run_awaitsSame_31 ?_
          simp (disch := first | omega | assumption) only [n_lit, n_gLt, n_gLe, n_gEq, n_gEq2, n_gLe2, n_gLt2, n_m1, n_add, n_mul, n_lt, n_le, n_eq, n_cl, n_in, n_rem, n_mlt, n_mle, n_ltm, n_lem, n_eqm, n_meq, n_bit, n_shl, n_b0, n_b1, n_sub, n_inT, nT, nF, lT, lF, eT, eF, not_false_eq_true, not_true_eq_false, sI_at, sI_c, sI_j, aI_at, aI_c, sL_at, sL_c, sL_j, true_and, and_true, not_true_eq_false, not_false_eq_true, forall_const, true_implies, false_implies, implies_true, if_true, if_false, ite_true, ite_false, Bool.not_eq_true, Bool.not_eq_false, Bool.true_eq_false, Bool.false_eq_true, false_and, and_false, or_true, true_or, false_or, or_false, e1]
          refine c_delay (vilC_fr (fun a c1 c2 => g1 a (by omega)) hV) hs (by omega) hm ?_
          by_cases c : k ≤ w.v.dl s i
          · have hw : ∀ d, d = x ∨ d = y → ∀ K' : Int32 → Bool → MI → ML → Prop, K' (nI (decide (w.v.dl s i ≤ d + k) && went w s (d + k - w.v.dl s i) i).toNat) b I3 L → CI m_Side_went [vr 16 r, vi (nI d - nI (w.v.dl s i - k)), vi (nI i)] b I3 L K' := by
              intro d hd K' kk
              refine c_wentX (by omega) ?_ kk
              by_cases c2 : w.v.dl s i ≤ d + k
              · refine Or.inr ⟨d + k - w.v.dl s i, by omega, ?_, ?_⟩
                · rw [n_sub (by omega), show d - (w.v.dl s i - k) = d + k - w.v.dl s i by omega]
                · rw [hrow _ (by omega) i (by omega), decide_eq_true (by omega : i < w.v.m), decide_eq_true c2]
              · refine Or.inl ⟨n_low (by omega) (by omega), ?_⟩
                rw [decide_eq_false c2, Bool.false_and]
            have nxt := fun I4 q1 q2 q5 => nxt I4 _ _ q1 q2 (fun p => dT2 x p c) (fun p => dT2 y p c) q5
            simp (disch := first | omega | assumption) only [n_lit, n_gLt, n_gLe, n_gEq, n_gEq2, n_gLe2, n_gLt2, n_m1, n_add, n_mul, n_lt, n_le, n_eq, n_cl, n_in, n_rem, n_mlt, n_mle, n_ltm, n_lem, n_eqm, n_meq, n_bit, n_shl, n_b0, n_b1, n_sub, n_inT, nT, nF, lT, lF, eT, eF, not_false_eq_true, not_true_eq_false, sI_at, sI_c, sI_j, aI_at, aI_c, sL_at, sL_c, sL_j, true_and, and_true, not_true_eq_false, not_false_eq_true, forall_const, true_implies, false_implies, implies_true, if_true, if_false, ite_true, ite_false, Bool.not_eq_true, Bool.not_eq_false, Bool.true_eq_false, Bool.false_eq_true, false_and, and_false, or_true, true_or, false_or, or_false]
            refine hw x (Or.inl rfl) _ ?_
            generalize (decide (w.v.dl s i ≤ x + k) && went w s (x + k - w.v.dl s i) i) = u at nxt ⊢
            cases u with
            | false =>
              simp (disch := first | omega | assumption) only [n_lit, n_gLt, n_gLe, n_gEq, n_gEq2, n_gLe2, n_gLt2, n_m1, n_add, n_mul, n_lt, n_le, n_eq, n_cl, n_in, n_rem, n_mlt, n_mle, n_ltm, n_lem, n_eqm, n_meq, n_bit, n_shl, n_b0, n_b1, n_sub, n_inT, nT, nF, lT, lF, eT, eF, not_false_eq_true, not_true_eq_false, sI_at, sI_c, sI_j, aI_at, aI_c, sL_at, sL_c, sL_j, true_and, and_true, not_true_eq_false, not_false_eq_true, forall_const, true_implies, false_implies, implies_true, if_true, if_false, ite_true, ite_false, Bool.not_eq_true, Bool.not_eq_false, Bool.true_eq_false, Bool.false_eq_true, false_and, and_false, or_true, true_or, false_or, or_false, Bool.toNat_false]
              refine hw y (Or.inr rfl) _ ?_
              generalize (decide (w.v.dl s i ≤ y + k) && went w s (y + k - w.v.dl s i) i) = v at nxt ⊢
              cases v with
              | false =>
                simp (disch := first | omega | assumption) only [n_lit, n_gLt, n_gLe, n_gEq, n_gEq2, n_gLe2, n_gLt2, n_m1, n_add, n_mul, n_lt, n_le, n_eq, n_cl, n_in, n_rem, n_mlt, n_mle, n_ltm, n_lem, n_eqm, n_meq, n_bit, n_shl, n_b0, n_b1, n_sub, n_inT, nT, nF, lT, lF, eT, eF, not_false_eq_true, not_true_eq_false, sI_at, sI_c, sI_j, aI_at, aI_c, sL_at, sL_c, sL_j, true_and, and_true, not_true_eq_false, not_false_eq_true, forall_const, true_implies, false_implies, implies_true, if_true, if_false, ite_true, ite_false, Bool.not_eq_true, Bool.not_eq_false, Bool.true_eq_false, Bool.false_eq_true, false_and, and_false, or_true, true_or, false_or, or_false, Bool.toNat_false]
                exact nxt I3 (fun _ _ => rfl) (fun _ _ => rfl) (by rw [e180]; simp)
              | true =>
                simp (disch := first | omega | assumption) only [n_lit, n_gLt, n_gLe, n_gEq, n_gEq2, n_gLe2, n_gLt2, n_m1, n_add, n_mul, n_lt, n_le, n_eq, n_cl, n_in, n_rem, n_mlt, n_mle, n_ltm, n_lem, n_eqm, n_meq, n_bit, n_shl, n_b0, n_b1, n_sub, n_inT, nT, nF, lT, lF, eT, eF, not_false_eq_true, not_true_eq_false, sI_at, sI_c, sI_j, aI_at, aI_c, sL_at, sL_c, sL_j, true_and, and_true, not_true_eq_false, not_false_eq_true, forall_const, true_implies, false_implies, implies_true, if_true, if_false, ite_true, ite_false, Bool.not_eq_true, Bool.not_eq_false, Bool.true_eq_false, Bool.false_eq_true, false_and, and_false, or_true, true_or, false_or, or_false, Bool.toNat_true, e158, e160, e180]
                refine nxt _ (fun a ha => sI_c ha) (fun p hp => sI_j hp) ?_
                rw [sI_at, z_nat, z_neg, z_add]
                simp
            | true =>
              simp (disch := first | omega | assumption) only [n_lit, n_gLt, n_gLe, n_gEq, n_gEq2, n_gLe2, n_gLt2, n_m1, n_add, n_mul, n_lt, n_le, n_eq, n_cl, n_in, n_rem, n_mlt, n_mle, n_ltm, n_lem, n_eqm, n_meq, n_bit, n_shl, n_b0, n_b1, n_sub, n_inT, nT, nF, lT, lF, eT, eF, not_false_eq_true, not_true_eq_false, sI_at, sI_c, sI_j, aI_at, aI_c, sL_at, sL_c, sL_j, true_and, and_true, not_true_eq_false, not_false_eq_true, forall_const, true_implies, false_implies, implies_true, if_true, if_false, ite_true, ite_false, Bool.not_eq_true, Bool.not_eq_false, Bool.true_eq_false, Bool.false_eq_true, false_and, and_false, or_true, true_or, false_or, or_false, Bool.toNat_true]
              refine hw y (Or.inr rfl) _ ?_
              generalize (decide (w.v.dl s i ≤ y + k) && went w s (y + k - w.v.dl s i) i) = v at nxt ⊢
              cases v with
              | false =>
                simp (disch := first | omega | assumption) only [n_lit, n_gLt, n_gLe, n_gEq, n_gEq2, n_gLe2, n_gLt2, n_m1, n_add, n_mul, n_lt, n_le, n_eq, n_cl, n_in, n_rem, n_mlt, n_mle, n_ltm, n_lem, n_eqm, n_meq, n_bit, n_shl, n_b0, n_b1, n_sub, n_inT, nT, nF, lT, lF, eT, eF, not_false_eq_true, not_true_eq_false, sI_at, sI_c, sI_j, aI_at, aI_c, sL_at, sL_c, sL_j, true_and, and_true, not_true_eq_false, not_false_eq_true, forall_const, true_implies, false_implies, implies_true, if_true, if_false, ite_true, ite_false, Bool.not_eq_true, Bool.not_eq_false, Bool.true_eq_false, Bool.false_eq_true, false_and, and_false, or_true, true_or, false_or, or_false, Bool.toNat_false, e158, e160, e180]
                refine nxt _ (fun a ha => sI_c ha) (fun p hp => sI_j hp) ?_
                rw [sI_at, z_nat, z_add]
                simp
              | true =>
                simp (disch := first | omega | assumption) only [n_lit, n_gLt, n_gLe, n_gEq, n_gEq2, n_gLe2, n_gLt2, n_m1, n_add, n_mul, n_lt, n_le, n_eq, n_cl, n_in, n_rem, n_mlt, n_mle, n_ltm, n_lem, n_eqm, n_meq, n_bit, n_shl, n_b0, n_b1, n_sub, n_inT, nT, nF, lT, lF, eT, eF, not_false_eq_true, not_true_eq_false, sI_at, sI_c, sI_j, aI_at, aI_c, sL_at, sL_c, sL_j, true_and, and_true, not_true_eq_false, not_false_eq_true, forall_const, true_implies, false_implies, implies_true, if_true, if_false, ite_true, ite_false, Bool.not_eq_true, Bool.not_eq_false, Bool.true_eq_false, Bool.false_eq_true, false_and, and_false, or_true, true_or, false_or, or_false, Bool.toNat_true]
                exact nxt I3 (fun _ _ => rfl) (fun _ _ => rfl) (by rw [e180]; simp)
          · have e := n_low (show w.v.dl s i < k by omega) (by omega)
            simp (disch := first | omega | assumption) only [n_lit, n_gLt, n_gLe, n_gEq, n_gEq2, n_gLe2, n_gLt2, n_m1, n_add, n_mul, n_lt, n_le, n_eq, n_cl, n_in, n_rem, n_mlt, n_mle, n_ltm, n_lem, n_eqm, n_meq, n_bit, n_shl, n_b0, n_b1, n_sub, n_inT, nT, nF, lT, lF, eT, eF, not_false_eq_true, not_true_eq_false, sI_at, sI_c, sI_j, aI_at, aI_c, sL_at, sL_c, sL_j, true_and, and_true, not_true_eq_false, not_false_eq_true, forall_const, true_implies, false_implies, implies_true, if_true, if_false, ite_true, ite_false, Bool.not_eq_true, Bool.not_eq_false, Bool.true_eq_false, Bool.false_eq_true, false_and, and_false, or_true, true_or, false_or, or_false]
            exact nxt I3 false false (fun _ _ => rfl) (fun _ _ => rfl) (fun p => dT x p c) (fun p => dT y p c) (by rw [e180]; simp)
      exact loopT w.v.m 0 (by omega) I2 h2 (fun p hp => f2 p hp)
  refine v_Run_awaitsSame_0 (c_side hr ?_)
  exact loopA 6 1 (by omega) (by omega) (fun j j1 j2 => by omega) I (fun _ _ => rfl)
