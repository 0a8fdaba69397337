/-! WHAT-IFS: turn, against the reference -/
theorem WM_kd {v : Vil} {t : Tel} {o p d : Nat} {I1 I' : MI} {L1 L' : ML} (W : WM v t wi0 o (mkW v v.m t wi0) I1 L1) (P : plP I1) (h2 : d ≤ 5) (S : sameP I1 I' L1 L') (e17 : I' 186 17 = nI p) (e18 : I' 186 18 = nI d) (e19 : I' 186 19 = nM) (hp : p < 16) : WM v t wi0 o (tuW v t d p) I' L' := by
  obtain ⟨⟨a1, a2, a3, a4, a5⟩, ⟨b1, b2, b3⟩, c1, d1, e1⟩ := W
  obtain ⟨s1, s2, s3⟩ := S
  refine ⟨⟨rfl, setKd_ok a2 h2, a3, a4, a5⟩, ⟨b1, (s1 11 (by omega) (by omega) (by omega) (by omega)).trans b2, vilM_fr s2 b3⟩, ?_, ?_, ?_⟩
  · unfold rtP telM at c1 ⊢
    rw [s2, s1 12 (by omega) (by omega) (by omega) (by omega)]
    exact c1
  · unfold rxP at d1 ⊢
    rw [s1 26 (by omega) (by omega) (by omega) (by omega), s1 25 (by omega) (by omega) (by omega) (by omega), s1 13 (by omega) (by omega) (by omega) (by omega), s1 14 (by omega) (by omega) (by omega) (by omega), s1 15 (by omega) (by omega) (by omega) (by omega), s1 16 (by omega) (by omega) (by omega) (by omega), s1 22 (by omega) (by omega) (by omega) (by omega), s3]
    exact d1
  · refine ⟨⟨rfl, rfl, rfl, rfl⟩, fun k hk => ⟨rfl, rfl, rfl, rfl⟩, fun q hq => ?_, fun q hq => Or.inr ⟨Or.inr ?_, rfl⟩, Or.inl ⟨?_, rfl⟩⟩
    · rw [e17, e18]
      show (nI p = nI q ∧ nI d = nI (if q = p then d else v.kd q)) ∨ ((¬ nI q = nI p ∨ nI d < nI 0) ∧ (if q = p then d else v.kd q) = v.kd q)
      by_cases c : q = p
      · subst c
        rw [if_pos rfl]
        exact Or.inl ⟨rfl, rfl⟩
      · rw [if_neg c]
        refine Or.inr ⟨Or.inl ?_, rfl⟩
        rw [n_eq (by omega) (by omega)]
        exact c
    · rw [e19]
      decide
    · rw [s1 23 (by omega) (by omega) (by omega) (by omega)]
      exact P.2.2.2.1
theorem lsN_lt {e : Nat → Nat} : ∀ {n j : Nat}, lsN e n = some j → j < n
  | 0, j, h => by cases h
  | n + 1, j, h => by
    unfold lsN at h
    cases q : lsN e n with
    | none =>
      rw [q] at h
      have : some n = some j := h
      cases this
      omega
    | some z =>
      rw [q] at h
      have h : (if e n < e z then some n else some z) = some j := h
      have := lsN_lt q
      split at h <;> cases h <;> omega
theorem lsN_some {e : Nat → Nat} (he : ∀ i, e i ≤ 16) : ∀ {n : Nat}, 1 ≤ n → ∃ j, lsN e n = some j
  | 0, h => by omega
  | n + 1, _ => by
    obtain ⟨n1, n2⟩ := lsN_next (n := n) he
    by_cases c : lsV e (lsN e n) ≤ e n
    · cases q : lsN e n with
      | none =>
        rw [q] at c
        have c : 1000 ≤ e n := c
        have := he n
        omega
      | some j => exact ⟨j, (n1 c).trans q⟩
    · exact ⟨n, n2 c⟩
theorem cm_turn {v : Vil} {t : Tel} {o k : Nat} {a : Int32} {I1 : MI} {L1 : ML} (W : WM v t wi0 o (mkW v v.m t wi0) I1 L1) (P : plP I1) (hk : k ≤ 5) {b : Bool} {K : Int32 → Bool → MI → ML → Prop} (hK : ∀ I' L', (∀ a, a < 186 ∨ a = 187 ∨ a = 188 ∨ a = 189 ∨ 202 ≤ a → I' a = I1 a) → K (qTu (tuE v t k) v.n a) b I' L') : SW m_M_turn 34 [vr 22 186, un, un, un, vi a, vi nM, vi (nI 0), vi (nI 0), un] [] b (sI I1 186 18 (nI k)) L1 (kI K) := by
  have hn : v.n ≤ 16 := W.1.2.1.1.2
  have hn1 : 1 ≤ v.n := W.1.2.1.1.1
  have he := fun p => tuE_le (t := t) (k := k) hn p
  have ppl : ∀ (I' : MI) (L' : ML) {K' : Int32 → Bool → MI → ML → Prop}, sameP I1 I' L1 L' → K' (nI v.n) b I' L' → CI m_M_people [vr 22 186] b I' L' K' := fun I' L' K' S kk => by
    have e := W.2.1.2.1
    have e0 := W.2.1.2.2.1.1
    have g := W.2.1.1
    refine v_M_people_0 ?_
    rw [S.1 11 (by omega) (by omega) (by omega) (by omega), S.2.1]
    simp (disch := first | omega | assumption) only [n_lit, n_gLt, n_gLe, n_gEq, n_gEq2, n_gLe2, n_gLt2, n_m1, n_add, n_mul, n_lt, n_le, n_eq, n_cl, n_in, n_rem, n_mlt, n_mle, n_ltm, n_lem, n_eqm, n_meq, n_bit, n_shl, n_b0, n_b1, n_sub, n_inT, nT, nF, lT, lF, eT, eF, not_false_eq_true, not_true_eq_false, sI_at, sI_c, sI_j, aI_at, aI_c, sL_at, sL_c, sL_j, true_and, and_true, not_true_eq_false, not_false_eq_true, forall_const, true_implies, false_implies, implies_true, if_true, if_false, ite_true, ite_false, Bool.not_eq_true, Bool.not_eq_false, Bool.true_eq_false, Bool.false_eq_true, false_and, and_false, or_true, true_or, false_or, or_false, e, Nat.add_zero, e0]
    exact kk
  have loop : ∀ n i, i + n = v.n → ∀ (x6 : Int32) (I' : MI) (L' : ML), (∀ a, a < 186 ∨ a = 187 ∨ a = 188 ∨ a = 189 ∨ 202 ≤ a → I' a = I1 a) → sameP I1 I' L1 L' → I' 186 18 = nI k → I' 186 19 = nM → (∀ j, lsN (tuE v t k) i = some j → x6 = nI (tuE v t k j)) → SW m_M_turn 34 [vr 22 186, un, un, un, vi a, vi (optI (lsN (tuE v t k) i)), vi x6, vi (nI i), un] [] b I' L' (kI K) := by
    intro n
    induction n with
    | zero =>
      intro i hi x6 I' L' fr S e18 e19 h6
      obtain rfl : i = v.n := by omega
      have kk := hK I' L' fr
      unfold qTu at kk
      obtain ⟨j, hj⟩ := lsN_some he hn1
      have h6 := h6 j hj
      refine v_M_turn_34 (ppl I' L' S ?_)
      simp (disch := first | omega | assumption) only [n_lit, n_gLt, n_gLe, n_gEq, n_gEq2, n_gLe2, n_gLt2, n_m1, n_add, n_mul, n_lt, n_le, n_eq, n_cl, n_in, n_rem, n_mlt, n_mle, n_ltm, n_lem, n_eqm, n_meq, n_bit, n_shl, n_b0, n_b1, n_sub, n_inT, nT, nF, lT, lF, eT, eF, not_false_eq_true, not_true_eq_false, sI_at, sI_c, sI_j, aI_at, aI_c, sL_at, sL_c, sL_j, true_and, and_true, not_true_eq_false, not_false_eq_true, forall_const, true_implies, false_implies, implies_true, if_true, if_false, ite_true, ite_false, Bool.not_eq_true, Bool.not_eq_false, Bool.true_eq_false, Bool.false_eq_true, false_and, and_false, or_true, true_or, false_or, or_false]
      by_cases c : a = nI 0
      · rw [if_pos c] at kk
        exact ⟨fun _ => kk, fun z => absurd c z⟩
      · rw [if_neg c, hj] at kk
        subst h6
        exact ⟨fun z => absurd z c, fun _ => kk⟩
    | succ n ih =>
      intro i hi x6 I' L' fr S e18 e19 h6
      have b2 := he i
      obtain ⟨n1, n2⟩ := lsN_next (e := tuE v t k) (n := i) he
      have S2 : sameP I1 (sI I' 186 17 (nI i)) L1 L' := ⟨fun j q1 q2 q3 q4 => by rw [sI_j q2, S.1 j q1 q2 q3 q4], by rw [sI_c (by omega), S.2.1], S.2.2⟩
      have W2 := WM_kd (p := i) (d := k) W P hk S2 (sI_at _ _ _ _) (by rw [sI_j (by omega)]; exact e18) (by rw [sI_j (by omega)]; exact e19) (by omega)
      refine v_M_turn_34 (ppl I' L' S ?_)
      simp (disch := first | omega | assumption) only [n_lit, n_gLt, n_gLe, n_gEq, n_gEq2, n_gLe2, n_gLt2, n_m1, n_add, n_mul, n_lt, n_le, n_eq, n_cl, n_in, n_rem, n_mlt, n_mle, n_ltm, n_lem, n_eqm, n_meq, n_bit, n_shl, n_b0, n_b1, n_sub, n_inT, nT, nF, lT, lF, eT, eF, not_false_eq_true, not_true_eq_false, sI_at, sI_c, sI_j, aI_at, aI_c, sL_at, sL_c, sL_j, true_and, and_true, not_true_eq_false, not_false_eq_true, forall_const, true_implies, false_implies, implies_true, if_true, if_false, ite_true, ite_false, Bool.not_eq_true, Bool.not_eq_false, Bool.true_eq_false, Bool.false_eq_true, false_and, and_false, or_true, true_or, false_or, or_false]
      refine cm_endOf W2 (fun I3 L3 f3 m3 => ?_)
      have fr3 : ∀ a, a < 186 ∨ a = 187 ∨ a = 188 ∨ a = 189 ∨ 202 ≤ a → I3 a = I1 a := fun a ha => by rw [f3.1 a ha, sI_c (by omega), fr a ha]
      have S3 := S2.fr f3 m3
      have g18 : I3 186 18 = nI k := by rw [f3.2 18 (by omega) (by omega), sI_j (by omega)]; exact e18
      have g19 : I3 186 19 = nM := by rw [f3.2 19 (by omega) (by omega), sI_j (by omega)]; exact e19
      have nxt := fun x6 h => ih (i + 1) (by omega) x6 I3 L3 fr3 S3 g18 g19 h
      cases h : lsN (tuE v t k) i with
      | none =>
        rw [h] at n1 n2
        have n2 := n2 (by show ¬ 1000 ≤ _; omega)
        have g := nxt (nI (tuE v t k i)) (fun j hj => by
          rw [n2] at hj
          cases hj
          rfl)
        rw [n2] at g
        unfold optI at g
        unfold optI
        simp (disch := first | omega | assumption) only [n_lit, n_gLt, n_gLe, n_gEq, n_gEq2, n_gLe2, n_gLt2, n_m1, n_add, n_mul, n_lt, n_le, n_eq, n_cl, n_in, n_rem, n_mlt, n_mle, n_ltm, n_lem, n_eqm, n_meq, n_bit, n_shl, n_b0, n_b1, n_sub, n_inT, nT, nF, lT, lF, eT, eF, not_false_eq_true, not_true_eq_false, sI_at, sI_c, sI_j, aI_at, aI_c, sL_at, sL_c, sL_j, true_and, and_true, not_true_eq_false, not_false_eq_true, forall_const, true_implies, false_implies, implies_true, if_true, if_false, ite_true, ite_false, Bool.not_eq_true, Bool.not_eq_false, Bool.true_eq_false, Bool.false_eq_true, false_and, and_false, or_true, true_or, false_or, or_false]
        exact g
      | some j =>
        have h6 := h6 j h
        have hj := lsN_lt h
        subst h6
        have b3 := he j
        rw [h] at n1 n2
        show (nI j < nI 0 → _) ∧ (¬ nI j < nI 0 → (nI (tuE v t k i) < nI (tuE v t k j) → _) ∧ (¬ nI (tuE v t k i) < nI (tuE v t k j) → _))
        refine ⟨fun q => absurd q (by rw [n_lt (by omega) (by omega)]; omega), fun _ => ⟨fun q => ?_, fun q => ?_⟩⟩
        · rw [n_lt (by omega) (by omega)] at q
          have n2 := n2 (by show ¬ tuE v t k j ≤ _; omega)
          have g := nxt (nI (tuE v t k i)) (fun j hj => by
            rw [n2] at hj
            cases hj
            rfl)
          rw [n2] at g
          exact g
        · rw [n_lt (by omega) (by omega)] at q
          have n1 := n1 (by show tuE v t k j ≤ _; omega)
          have g := nxt (nI (tuE v t k j)) (fun j2 hj => by
            rw [n1] at hj
            cases hj
            rfl)
          rw [n1] at g
          exact g
  exact loop v.n 0 (by omega) (nI 0) _ L1 (fun a ha => sI_c (by omega)) ⟨fun j q1 q2 q3 q4 => sI_j q3, sI_c (by omega), rfl⟩ (sI_at _ _ _ _) (by rw [sI_j (by omega)]; exact P.2.2.1) (fun j hj => by cases hj)
theorem op_turn : H_turn := by
  intro a1 a2 a3 a4 h4
  refine Op2.q (fun B => if (inR a3 6 && tkB B a1 a2) = true then qTu (tuE (B.vl a1.toNatClampNeg) (B.tlOf a2) a3.toNatClampNeg) (B.wd a1 a2).v.n a4 else nM) (fun B I b L K ok hc k => ?_) (fun B I b L K ok hm k => ?_)
  · refine v_S_turn_0 ?_
    cases g1 : inR a3 6 with
    | true =>
      obtain ⟨d, hd, rfl⟩ := (inR_iff (by decide)).mp g1
      simp (disch := first | omega | assumption) only [n_lit, n_gLt, n_gLe, n_gEq, n_gEq2, n_gLe2, n_gLt2, n_m1, n_add, n_mul, n_lt, n_le, n_eq, n_cl, n_in, n_rem, n_mlt, n_mle, n_ltm, n_lem, n_eqm, n_meq, n_bit, n_shl, n_b0, n_b1, n_sub, n_inT, nT, nF, lT, lF, eT, eF, not_false_eq_true, not_true_eq_false, sI_at, sI_c, sI_j, aI_at, aI_c, sL_at, sL_c, sL_j, true_and, and_true, not_true_eq_false, not_false_eq_true, forall_const, true_implies, false_implies, implies_true, if_true, if_false, ite_true, ite_false, Bool.not_eq_true, Bool.not_eq_false, Bool.true_eq_false, Bool.false_eq_true, false_and, and_false, or_true, true_or, false_or, or_false]
      refine c_takeW ok hc (fun g2 I1 L1 f1 W1 l0 => ?_) (fun g2 => ?_)
      · have ht : (B.tlOf a2).ok := tlOf_ok ok ((tkB_iff ok).mp g2).2
        simp (disch := first | omega | assumption) only [n_lit, n_gLt, n_gLe, n_gEq, n_gEq2, n_gLe2, n_gLt2, n_m1, n_add, n_mul, n_lt, n_le, n_eq, n_cl, n_in, n_rem, n_mlt, n_mle, n_ltm, n_lem, n_eqm, n_meq, n_bit, n_shl, n_b0, n_b1, n_sub, n_inT, nT, nF, lT, lF, eT, eF, not_false_eq_true, not_true_eq_false, sI_at, sI_c, sI_j, aI_at, aI_c, sL_at, sL_c, sL_j, true_and, and_true, not_true_eq_false, not_false_eq_true, forall_const, true_implies, false_implies, implies_true, if_true, if_false, ite_true, ite_false, Bool.not_eq_true, Bool.not_eq_false, Bool.true_eq_false, Bool.false_eq_true, false_and, and_false, or_true, true_or, false_or, or_false]
        refine c_turn W1.vil.2 ht (by omega) l0 (fun I2 L2 f2 => ?_)
        have kk := k b I2 L2 (fun a ha => (f2 a (by omega)).trans (f1 a (by omega)))
        rw [g1, g2, n_cl (by omega), Bool.and_self, if_pos rfl] at kk
        exact kk
      · have kk := k b I L (fun _ _ => rfl)
        rw [g2, Bool.and_false] at kk
        simp (disch := first | omega | assumption) only [n_lit, n_gLt, n_gLe, n_gEq, n_gEq2, n_gLe2, n_gLt2, n_m1, n_add, n_mul, n_lt, n_le, n_eq, n_cl, n_in, n_rem, n_mlt, n_mle, n_ltm, n_lem, n_eqm, n_meq, n_bit, n_shl, n_b0, n_b1, n_sub, n_inT, nT, nF, lT, lF, eT, eF, not_false_eq_true, not_true_eq_false, sI_at, sI_c, sI_j, aI_at, aI_c, sL_at, sL_c, sL_j, true_and, and_true, not_true_eq_false, not_false_eq_true, forall_const, true_implies, false_implies, implies_true, if_true, if_false, ite_true, ite_false, Bool.not_eq_true, Bool.not_eq_false, Bool.true_eq_false, Bool.false_eq_true, false_and, and_false, or_true, true_or, false_or, or_false] at kk
        simp (disch := first | omega | assumption) only [n_lit, n_gLt, n_gLe, n_gEq, n_gEq2, n_gLe2, n_gLt2, n_m1, n_add, n_mul, n_lt, n_le, n_eq, n_cl, n_in, n_rem, n_mlt, n_mle, n_ltm, n_lem, n_eqm, n_meq, n_bit, n_shl, n_b0, n_b1, n_sub, n_inT, nT, nF, lT, lF, eT, eF, not_false_eq_true, not_true_eq_false, sI_at, sI_c, sI_j, aI_at, aI_c, sL_at, sL_c, sL_j, true_and, and_true, not_true_eq_false, not_false_eq_true, forall_const, true_implies, false_implies, implies_true, if_true, if_false, ite_true, ite_false, Bool.not_eq_true, Bool.not_eq_false, Bool.true_eq_false, Bool.false_eq_true, false_and, and_false, or_true, true_or, false_or, or_false]
        exact kk
    | false =>
      have kk := k b I L (fun _ _ => rfl)
      rw [g1, Bool.false_and] at kk
      simp (disch := first | omega | assumption) only [n_lit, n_gLt, n_gLe, n_gEq, n_gEq2, n_gLe2, n_gLt2, n_m1, n_add, n_mul, n_lt, n_le, n_eq, n_cl, n_in, n_rem, n_mlt, n_mle, n_ltm, n_lem, n_eqm, n_meq, n_bit, n_shl, n_b0, n_b1, n_sub, n_inT, nT, nF, lT, lF, eT, eF, not_false_eq_true, not_true_eq_false, sI_at, sI_c, sI_j, aI_at, aI_c, sL_at, sL_c, sL_j, true_and, and_true, not_true_eq_false, not_false_eq_true, forall_const, true_implies, false_implies, implies_true, if_true, if_false, ite_true, ite_false, Bool.not_eq_true, Bool.not_eq_false, Bool.true_eq_false, Bool.false_eq_true, false_and, and_false, or_true, true_or, false_or, or_false] at kk
      rcases inR_out (by decide) g1 with q | ⟨j, q1, q2, rfl⟩
      · simp (disch := first | omega | assumption) only [n_lit, n_gLt, n_gLe, n_gEq, n_gEq2, n_gLe2, n_gLt2, n_m1, n_add, n_mul, n_lt, n_le, n_eq, n_cl, n_in, n_rem, n_mlt, n_mle, n_ltm, n_lem, n_eqm, n_meq, n_bit, n_shl, n_b0, n_b1, n_sub, n_inT, nT, nF, lT, lF, eT, eF, not_false_eq_true, not_true_eq_false, sI_at, sI_c, sI_j, aI_at, aI_c, sL_at, sL_c, sL_j, true_and, and_true, not_true_eq_false, not_false_eq_true, forall_const, true_implies, false_implies, implies_true, if_true, if_false, ite_true, ite_false, Bool.not_eq_true, Bool.not_eq_false, Bool.true_eq_false, Bool.false_eq_true, false_and, and_false, or_true, true_or, false_or, or_false, q]
        exact kk
      · simp (disch := first | omega | assumption) only [n_lit, n_gLt, n_gLe, n_gEq, n_gEq2, n_gLe2, n_gLt2, n_m1, n_add, n_mul, n_lt, n_le, n_eq, n_cl, n_in, n_rem, n_mlt, n_mle, n_ltm, n_lem, n_eqm, n_meq, n_bit, n_shl, n_b0, n_b1, n_sub, n_inT, nT, nF, lT, lF, eT, eF, not_false_eq_true, not_true_eq_false, sI_at, sI_c, sI_j, aI_at, aI_c, sL_at, sL_c, sL_j, true_and, and_true, not_true_eq_false, not_false_eq_true, forall_const, true_implies, false_implies, implies_true, if_true, if_false, ite_true, ite_false, Bool.not_eq_true, Bool.not_eq_false, Bool.true_eq_false, Bool.false_eq_true, false_and, and_false, or_true, true_or, false_or, or_false]
        exact kk
  · refine v_M_turn_0 (cm_isIn0 (n := 5) (by decide) (fun g1 => ?_) (fun g1 => ?_))
    · obtain ⟨d, hd, rfl⟩ := (inR_iff (by decide)).mp g1
      simp (disch := first | omega | assumption) only [n_lit, n_gLt, n_gLe, n_gEq, n_gEq2, n_gLe2, n_gLt2, n_m1, n_add, n_mul, n_lt, n_le, n_eq, n_cl, n_in, n_rem, n_mlt, n_mle, n_ltm, n_lem, n_eqm, n_meq, n_bit, n_shl, n_b0, n_b1, n_sub, n_inT, nT, nF, lT, lF, eT, eF, not_false_eq_true, not_true_eq_false, sI_at, sI_c, sI_j, aI_at, aI_c, sL_at, sL_c, sL_j, true_and, and_true, not_true_eq_false, not_false_eq_true, forall_const, true_implies, false_implies, implies_true, if_true, if_false, ite_true, ite_false, Bool.not_eq_true, Bool.not_eq_false, Bool.true_eq_false, Bool.false_eq_true, false_and, and_false, or_true, true_or, false_or, or_false]
      refine cm_bothP ok hm (fun g2 I1 L1 o f1 W1 P => ?_) (fun g2 I1 f1 => ?_)
      · simp (disch := first | omega | assumption) only [n_lit, n_gLt, n_gLe, n_gEq, n_gEq2, n_gLe2, n_gLt2, n_m1, n_add, n_mul, n_lt, n_le, n_eq, n_cl, n_in, n_rem, n_mlt, n_mle, n_ltm, n_lem, n_eqm, n_meq, n_bit, n_shl, n_b0, n_b1, n_sub, n_inT, nT, nF, lT, lF, eT, eF, not_false_eq_true, not_true_eq_false, sI_at, sI_c, sI_j, aI_at, aI_c, sL_at, sL_c, sL_j, true_and, and_true, not_true_eq_false, not_false_eq_true, forall_const, true_implies, false_implies, implies_true, if_true, if_false, ite_true, ite_false, Bool.not_eq_true, Bool.not_eq_false, Bool.true_eq_false, Bool.false_eq_true, false_and, and_false, or_true, true_or, false_or, or_false]
        refine cm_turn W1 P (by omega) (fun I2 L2 f2 => ?_)
        have kk := k b I2 L2 (fun a ha => (f2 a (by omega)).trans (f1 a (by omega)))
        rw [g1, g2, n_cl (by omega), Bool.and_self, if_pos rfl] at kk
        exact kk
      · have kk := k b I1 L (fun a ha => f1 a (by omega))
        rw [g2, Bool.and_false] at kk
        simp (disch := first | omega | assumption) only [n_lit, n_gLt, n_gLe, n_gEq, n_gEq2, n_gLe2, n_gLt2, n_m1, n_add, n_mul, n_lt, n_le, n_eq, n_cl, n_in, n_rem, n_mlt, n_mle, n_ltm, n_lem, n_eqm, n_meq, n_bit, n_shl, n_b0, n_b1, n_sub, n_inT, nT, nF, lT, lF, eT, eF, not_false_eq_true, not_true_eq_false, sI_at, sI_c, sI_j, aI_at, aI_c, sL_at, sL_c, sL_j, true_and, and_true, not_true_eq_false, not_false_eq_true, forall_const, true_implies, false_implies, implies_true, if_true, if_false, ite_true, ite_false, Bool.not_eq_true, Bool.not_eq_false, Bool.true_eq_false, Bool.false_eq_true, false_and, and_false, or_true, true_or, false_or, or_false] at kk
        simp (disch := first | omega | assumption) only [n_lit, n_gLt, n_gLe, n_gEq, n_gEq2, n_gLe2, n_gLt2, n_m1, n_add, n_mul, n_lt, n_le, n_eq, n_cl, n_in, n_rem, n_mlt, n_mle, n_ltm, n_lem, n_eqm, n_meq, n_bit, n_shl, n_b0, n_b1, n_sub, n_inT, nT, nF, lT, lF, eT, eF, not_false_eq_true, not_true_eq_false, sI_at, sI_c, sI_j, aI_at, aI_c, sL_at, sL_c, sL_j, true_and, and_true, not_true_eq_false, not_false_eq_true, forall_const, true_implies, false_implies, implies_true, if_true, if_false, ite_true, ite_false, Bool.not_eq_true, Bool.not_eq_false, Bool.true_eq_false, Bool.false_eq_true, false_and, and_false, or_true, true_or, false_or, or_false]
        exact kk
    · have kk := k b I L (fun _ _ => rfl)
      rw [g1, Bool.false_and] at kk
      simp (disch := first | omega | assumption) only [n_lit, n_gLt, n_gLe, n_gEq, n_gEq2, n_gLe2, n_gLt2, n_m1, n_add, n_mul, n_lt, n_le, n_eq, n_cl, n_in, n_rem, n_mlt, n_mle, n_ltm, n_lem, n_eqm, n_meq, n_bit, n_shl, n_b0, n_b1, n_sub, n_inT, nT, nF, lT, lF, eT, eF, not_false_eq_true, not_true_eq_false, sI_at, sI_c, sI_j, aI_at, aI_c, sL_at, sL_c, sL_j, true_and, and_true, not_true_eq_false, not_false_eq_true, forall_const, true_implies, false_implies, implies_true, if_true, if_false, ite_true, ite_false, Bool.not_eq_true, Bool.not_eq_false, Bool.true_eq_false, Bool.false_eq_true, false_and, and_false, or_true, true_or, false_or, or_false] at kk
      simp (disch := first | omega | assumption) only [n_lit, n_gLt, n_gLe, n_gEq, n_gEq2, n_gLe2, n_gLt2, n_m1, n_add, n_mul, n_lt, n_le, n_eq, n_cl, n_in, n_rem, n_mlt, n_mle, n_ltm, n_lem, n_eqm, n_meq, n_bit, n_shl, n_b0, n_b1, n_sub, n_inT, nT, nF, lT, lF, eT, eF, not_false_eq_true, not_true_eq_false, sI_at, sI_c, sI_j, aI_at, aI_c, sL_at, sL_c, sL_j, true_and, and_true, not_true_eq_false, not_false_eq_true, forall_const, true_implies, false_implies, implies_true, if_true, if_false, ite_true, ite_false, Bool.not_eq_true, Bool.not_eq_false, Bool.true_eq_false, Bool.false_eq_true, false_and, and_false, or_true, true_or, false_or, or_false]
      exact kk
