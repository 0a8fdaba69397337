/-! WHAT-IFS: key, against the reference -/
theorem m_lt : ∀ x, x < 17 → ∀ y, y < 17 → (-nI x < -nI y) = (y < x) := by decide +kernel
theorem m_sub : ∀ b, b < 17 → ∀ x, x < 17 → ∀ y, y < 17 → (nI b - nI x < nI b - nI y) = (y < x) := by decide +kernel
theorem cm_keyP {B : Bk} {a1 a2 : Int32} {o : Nat} {I : MI} {L : ML} (W : WM (B.vl a1.toNatClampNeg) (B.tlOf a2) wi0 o (B.wd a1 a2) I L) {b : Bool} {K : Int32 → Bool → MI → ML → Prop} (hK : ∀ I' L', (∀ a, a < 186 ∨ a = 187 ∨ a = 188 ∨ a = 189 ∨ 202 ≤ a → I' a = I a) → K (optI (lsN (kyP B a1 a2) (B.wd a1 a2).v.n)) b I' L') : SW m_M_key 20 [vr 22 186, un, un, vi (nI 0), vi nM, vi (nI 0), vi (nI 0), un] [] b I L (kI K) := by
  have hn := W.1.2.1.1.2
  have he : ∀ i, kyP B a1 a2 i ≤ 16 := fun i => Nat.le_trans (endN_le _) hn
  have hb : endN (B.wx a1 a2 (siX (fun _ => false))) ≤ 16 := Nat.le_trans (endN_le _) hn
  have loop : ∀ n i, i + n = (B.wd a1 a2).v.n → ∀ (f : Nat → Bool) (x5 : Int32) (I1 : MI) (L1 : ML), (∀ a, a < 186 ∨ a = 187 ∨ a = 188 ∨ a = 189 ∨ 202 ≤ a → I1 a = I a) → WM (B.vl a1.toNatClampNeg) (B.tlOf a2) (siX f) o (B.wx a1 a2 (siX f)) I1 L1 → (∀ j, lsN (kyP B a1 a2) i = some j → x5 = nI (endN (B.wx a1 a2 (siX (fun _ => false)))) - nI (kyP B a1 a2 j)) → SW m_M_key 20 [vr 22 186, un, un, vi (nI 0), vi (optI (lsN (kyP B a1 a2) i)), vi x5, vi (nI i), un] [] b I1 L1 (kI K) := by
    intro n
    induction n with
    | zero =>
      intro i hi f x5 I1 L1 f1 W1 h5
      obtain rfl : i = (B.wd a1 a2).v.n := by omega
      refine v_M_key_20 ?_
      simp (disch := first | omega | assumption) only [n_lit, n_gLt, n_gLe, n_gEq, n_gEq2, n_gLe2, n_gLt2, n_m1, n_add, n_mul, n_lt, n_le, n_eq, n_cl, n_in, n_rem, n_mlt, n_mle, n_ltm, n_lem, n_eqm, n_meq, n_bit, n_shl, n_b0, n_b1, n_sub, n_inT, nT, nF, lT, lF, eT, eF, not_false_eq_true, not_true_eq_false, sI_at, sI_c, sI_j, aI_at, aI_c, sL_at, sL_c, sL_j, true_and, and_true, not_true_eq_false, not_false_eq_true, forall_const, true_implies, false_implies, implies_true, if_true, if_false, ite_true, ite_false, Bool.not_eq_true, Bool.not_eq_false, Bool.true_eq_false, Bool.false_eq_true, false_and, and_false, or_true, true_or, false_or, or_false]
      refine cm_people W1 ?_
      exact ⟨fun _ => hK I1 L1 f1, fun q => absurd (show nI (B.wd a1 a2).v.n ≤ nI (B.wd a1 a2).v.n by rw [n_le (by omega) (by omega)]; exact Nat.le_refl _) q⟩
    | succ n ih =>
      intro i hi f x5 I1 L1 f1 W1 h5
      have b2 := he i
      obtain ⟨n1, n2⟩ := lsN_next (e := kyP B a1 a2) (n := i) he
      have W2 : WM (B.vl a1.toNatClampNeg) (B.tlOf a2) (siX f) o (B.wx a1 a2 (siX f)) I1 (sL L1 186 20 0) := WM_dd (x := siX f) (g := fun _ => false) (fun p _ => l_0 p) rfl W1
      refine v_M_key_20 ?_
      simp (disch := first | omega | assumption) only [n_lit, n_gLt, n_gLe, n_gEq, n_gEq2, n_gLe2, n_gLt2, n_m1, n_add, n_mul, n_lt, n_le, n_eq, n_cl, n_in, n_rem, n_mlt, n_mle, n_ltm, n_lem, n_eqm, n_meq, n_bit, n_shl, n_b0, n_b1, n_sub, n_inT, nT, nF, lT, lF, eT, eF, not_false_eq_true, not_true_eq_false, sI_at, sI_c, sI_j, aI_at, aI_c, sL_at, sL_c, sL_j, true_and, and_true, not_true_eq_false, not_false_eq_true, forall_const, true_implies, false_implies, implies_true, if_true, if_false, ite_true, ite_false, Bool.not_eq_true, Bool.not_eq_false, Bool.true_eq_false, Bool.false_eq_true, false_and, and_false, or_true, true_or, false_or, or_false]
      refine cm_people W1 ?_
      show (nI (B.wd a1 a2).v.n ≤ nI i → _) ∧ (¬ nI (B.wd a1 a2).v.n ≤ nI i → _)
      simp (disch := first | omega | assumption) only [n_lit, n_gLt, n_gLe, n_gEq, n_gEq2, n_gLe2, n_gLt2, n_m1, n_add, n_mul, n_lt, n_le, n_eq, n_cl, n_in, n_rem, n_mlt, n_mle, n_ltm, n_lem, n_eqm, n_meq, n_bit, n_shl, n_b0, n_b1, n_sub, n_inT, nT, nF, lT, lF, eT, eF, not_false_eq_true, not_true_eq_false, sI_at, sI_c, sI_j, aI_at, aI_c, sL_at, sL_c, sL_j, true_and, and_true, not_true_eq_false, not_false_eq_true, forall_const, true_implies, false_implies, implies_true, if_true, if_false, ite_true, ite_false, Bool.not_eq_true, Bool.not_eq_false, Bool.true_eq_false, Bool.false_eq_true, false_and, and_false, or_true, true_or, false_or, or_false]
      refine cm_mattersOf (p := i) W2 (show i < (B.wd a1 a2).v.n by omega) (fun I3 L3 f3 _ _ W3 => ?_)
      have nxt := ih (i + 1) (by omega) (fun q => decide (q = i))
      cases h : lsN (kyP B a1 a2) i with
      | none =>
        rw [h] at n1 n2
        have n2 := n2 (by show ¬ 1000 ≤ _; omega)
        have g := nxt (nI (endN (B.wx a1 a2 (siX (fun _ => false)))) - nI (kyP B a1 a2 i)) I3 L3 (fun a ha => (f3 a ha).trans (f1 a ha)) W3 (fun j hj => by
          rw [n2] at hj
          cases hj
          rfl)
        rw [n2] at g
        unfold optI at g
        unfold optI
        simp (disch := first | omega | assumption) only [n_lit, n_gLt, n_gLe, n_gEq, n_gEq2, n_gLe2, n_gLt2, n_m1, n_add, n_mul, n_lt, n_le, n_eq, n_cl, n_in, n_rem, n_mlt, n_mle, n_ltm, n_lem, n_eqm, n_meq, n_bit, n_shl, n_b0, n_b1, n_sub, n_inT, nT, nF, lT, lF, eT, eF, not_false_eq_true, not_true_eq_false, sI_at, sI_c, sI_j, aI_at, aI_c, sL_at, sL_c, sL_j, true_and, and_true, not_true_eq_false, not_false_eq_true, forall_const, true_implies, false_implies, implies_true, if_true, if_false, ite_true, ite_false, Bool.not_eq_true, Bool.not_eq_false, Bool.true_eq_false, Bool.false_eq_true, false_and, and_false, or_true, true_or, false_or, or_false]
        exact g
      | some j =>
        have h5 := h5 j h
        subst h5
        have b3 := he j
        have cmp := m_sub _ (show endN (B.wx a1 a2 (siX (fun _ => false))) < 17 by omega) (kyP B a1 a2 j) (by omega) (kyP B a1 a2 i) (by omega)
        rw [h] at n1 n2
        have hj : j ≤ i := by
          have q : ∀ n j, lsN (kyP B a1 a2) n = some j → j < n := by
            intro n
            induction n with
            | zero => intro j h; cases h
            | succ n ihn =>
              intro j h
              unfold lsN at h
              cases e : lsN (kyP B a1 a2) n with
              | none =>
                rw [e] at h
                have : some n = some j := h
                cases this
                omega
              | some z =>
                rw [e] at h
                have h : (if kyP B a1 a2 n < kyP B a1 a2 z then some n else some z) = some j := h
                have := ihn z e
                split at h <;> cases h <;> omega
          exact Nat.le_of_lt (q i j h)
        show (nI j < 0 → _) ∧ (¬ nI j < 0 → (nI (endN (B.wx a1 a2 (siX (fun _ => false)))) - nI (kyP B a1 a2 j) < nI (endN (B.wx a1 a2 (siX (fun _ => false)))) - nI (kyP B a1 a2 i) → _) ∧ (¬ nI (endN (B.wx a1 a2 (siX (fun _ => false)))) - nI (kyP B a1 a2 j) < nI (endN (B.wx a1 a2 (siX (fun _ => false)))) - nI (kyP B a1 a2 i) → _))
        refine ⟨fun q => absurd q (by rw [n_lit, n_lt (by omega) (by omega)]; omega), fun _ => ⟨fun q => ?_, fun q => ?_⟩⟩
        · rw [cmp] at q
          have n2 := n2 (by show ¬ kyP B a1 a2 j ≤ _; omega)
          have g := nxt (nI (endN (B.wx a1 a2 (siX (fun _ => false)))) - nI (kyP B a1 a2 i)) I3 L3 (fun a ha => (f3 a ha).trans (f1 a ha)) W3 (fun j hj => by
            rw [n2] at hj
            cases hj
            rfl)
          rw [n2] at g
          exact g
        · rw [cmp] at q
          have n1 := n1 (by show kyP B a1 a2 j ≤ _; omega)
          have g := nxt (nI (endN (B.wx a1 a2 (siX (fun _ => false)))) - nI (kyP B a1 a2 j)) I3 L3 (fun a ha => (f3 a ha).trans (f1 a ha)) W3 (fun j2 hj => by
            rw [n1] at hj
            cases hj
            rfl)
          rw [n1] at g
          exact g
  exact loop (B.wd a1 a2).v.n 0 (by omega) (fun _ => false) (nI 0) I L (fun a _ => rfl) W (fun j hj => by cases hj)
theorem cm_keyT {B : Bk} {a1 a2 : Int32} {o : Nat} {I : MI} {L : ML} (em : (B.wd a1 a2).v.m = (B.vl a1.toNatClampNeg).m) (W : WM (B.vl a1.toNatClampNeg) (B.tlOf a2) wi0 o (B.wd a1 a2) I L) {b : Bool} {K : Int32 → Bool → MI → ML → Prop} (hK : ∀ I' L', (∀ a, a < 186 ∨ a = 187 ∨ a = 188 ∨ a = 189 ∨ 202 ≤ a → I' a = I a) → K (optI (lsN (kyT B a1 a2) (B.wd a1 a2).v.m)) b I' L') : SW m_M_key 20 [vr 22 186, un, un, vi (nI 1), vi nM, vi (nI 0), vi (nI 0), un] [] b I L (kI K) := by
  have hn := W.1.2.1.1.2
  have hm := W.1.2.1.2.1
  have he : ∀ i, kyT B a1 a2 i ≤ 16 := fun i => Nat.le_trans (endN_le _) hn
  have loop : ∀ n i, i + n = (B.wd a1 a2).v.m → ∀ (f : Nat → Bool) (x5 : Int32) (I1 : MI) (L1 : ML), (∀ a, a < 186 ∨ a = 187 ∨ a = 188 ∨ a = 189 ∨ 202 ≤ a → I1 a = I a) → WM (B.vl a1.toNatClampNeg) (B.tlOf a2) (wi0.wdd f) o (B.wx a1 a2 (wi0.wdd f)) I1 L1 → (∀ j, lsN (kyT B a1 a2) i = some j → j < i ∧ x5 = -nI (kyT B a1 a2 j)) → SW m_M_key 20 [vr 22 186, un, un, vi (nI 1), vi (optI (lsN (kyT B a1 a2) i)), vi x5, vi (nI i), un] [] b I1 L1 (kI K) := by
    intro n
    induction n with
    | zero =>
      intro i hi f x5 I1 L1 f1 W1 h5
      obtain rfl : i = (B.wd a1 a2).v.m := by omega
      refine v_M_key_20 ?_
      simp (disch := first | omega | assumption) only [n_lit, n_gLt, n_gLe, n_gEq, n_gEq2, n_gLe2, n_gLt2, n_m1, n_add, n_mul, n_lt, n_le, n_eq, n_cl, n_in, n_rem, n_mlt, n_mle, n_ltm, n_lem, n_eqm, n_meq, n_bit, n_shl, n_b0, n_b1, n_sub, n_inT, nT, nF, lT, lF, eT, eF, not_false_eq_true, not_true_eq_false, sI_at, sI_c, sI_j, aI_at, aI_c, sL_at, sL_c, sL_j, true_and, and_true, not_true_eq_false, not_false_eq_true, forall_const, true_implies, false_implies, implies_true, if_true, if_false, ite_true, ite_false, Bool.not_eq_true, Bool.not_eq_false, Bool.true_eq_false, Bool.false_eq_true, false_and, and_false, or_true, true_or, false_or, or_false]
      refine cm_ties W1 ?_
      exact ⟨fun _ => hK I1 L1 f1, fun q => absurd (show nI (B.vl a1.toNatClampNeg).m ≤ nI (B.wd a1 a2).v.m by rw [em, n_le (by omega) (by omega)]; exact Nat.le_refl _) q⟩
    | succ n ih =>
      intro i hi f x5 I1 L1 f1 W1 h5
      have b2 := he i
      obtain ⟨n1, n2⟩ := lsN_next (e := kyT B a1 a2) (n := i) he
      have W2 : WM (B.vl a1.toNatClampNeg) (B.tlOf a2) (wi0.wdd (fun q => decide (q = i))) o (B.wx a1 a2 (wi0.wdd (fun q => decide (q = i)))) I1 (sL L1 186 20 ((1 : Int64) <<< ((nI i).toInt64 &&& 63))) := WM_dd (x := wi0.wdd f) (g := fun q => decide (q = i)) (fun p hp => l_one (by omega) hp) (decide_eq_false (by omega)) W1
      refine v_M_key_20 ?_
      simp (disch := first | omega | assumption) only [n_lit, n_gLt, n_gLe, n_gEq, n_gEq2, n_gLe2, n_gLt2, n_m1, n_add, n_mul, n_lt, n_le, n_eq, n_cl, n_in, n_rem, n_mlt, n_mle, n_ltm, n_lem, n_eqm, n_meq, n_bit, n_shl, n_b0, n_b1, n_sub, n_inT, nT, nF, lT, lF, eT, eF, not_false_eq_true, not_true_eq_false, sI_at, sI_c, sI_j, aI_at, aI_c, sL_at, sL_c, sL_j, true_and, and_true, not_true_eq_false, not_false_eq_true, forall_const, true_implies, false_implies, implies_true, if_true, if_false, ite_true, ite_false, Bool.not_eq_true, Bool.not_eq_false, Bool.true_eq_false, Bool.false_eq_true, false_and, and_false, or_true, true_or, false_or, or_false]
      refine cm_ties W1 ?_
      simp (disch := first | omega | assumption) only [n_lit, n_gLt, n_gLe, n_gEq, n_gEq2, n_gLe2, n_gLt2, n_m1, n_add, n_mul, n_lt, n_le, n_eq, n_cl, n_in, n_rem, n_mlt, n_mle, n_ltm, n_lem, n_eqm, n_meq, n_bit, n_shl, n_b0, n_b1, n_sub, n_inT, nT, nF, lT, lF, eT, eF, not_false_eq_true, not_true_eq_false, sI_at, sI_c, sI_j, aI_at, aI_c, sL_at, sL_c, sL_j, true_and, and_true, not_true_eq_false, not_false_eq_true, forall_const, true_implies, false_implies, implies_true, if_true, if_false, ite_true, ite_false, Bool.not_eq_true, Bool.not_eq_false, Bool.true_eq_false, Bool.false_eq_true, false_and, and_false, or_true, true_or, false_or, or_false]
      refine cm_endOf W2 (fun I3 L3 f3 m3 => ?_)
      have W3 := W2.frM f3 (m3 186 (by decide))
      have nxt := ih (i + 1) (by omega) (fun q => decide (q = i))
      have fr : ∀ a, a < 186 ∨ a = 187 ∨ a = 188 ∨ a = 189 ∨ 202 ≤ a → I3 a = I a := fun a ha => (f3.1 a ha).trans (f1 a ha)
      cases h : lsN (kyT B a1 a2) i with
      | none =>
        rw [h] at n1 n2
        have n2 := n2 (by show ¬ 1000 ≤ _; omega)
        have g := nxt (-nI (kyT B a1 a2 i)) I3 L3 fr W3 (fun j hj => by
          rw [n2] at hj
          cases hj
          exact ⟨by omega, rfl⟩)
        rw [n2] at g
        unfold optI at g
        unfold optI
        simp (disch := first | omega | assumption) only [n_lit, n_gLt, n_gLe, n_gEq, n_gEq2, n_gLe2, n_gLt2, n_m1, n_add, n_mul, n_lt, n_le, n_eq, n_cl, n_in, n_rem, n_mlt, n_mle, n_ltm, n_lem, n_eqm, n_meq, n_bit, n_shl, n_b0, n_b1, n_sub, n_inT, nT, nF, lT, lF, eT, eF, not_false_eq_true, not_true_eq_false, sI_at, sI_c, sI_j, aI_at, aI_c, sL_at, sL_c, sL_j, true_and, and_true, not_true_eq_false, not_false_eq_true, forall_const, true_implies, false_implies, implies_true, if_true, if_false, ite_true, ite_false, Bool.not_eq_true, Bool.not_eq_false, Bool.true_eq_false, Bool.false_eq_true, false_and, and_false, or_true, true_or, false_or, or_false]
        exact g
      | some j =>
        obtain ⟨hj, h5⟩ := h5 j h
        subst h5
        have b3 := he j
        have cmp := m_lt (kyT B a1 a2 j) (by omega) (kyT B a1 a2 i) (by omega)
        rw [h] at n1 n2
        show (nI j < nI 0 → _) ∧ (¬ nI j < nI 0 → (-nI (kyT B a1 a2 j) < -nI (kyT B a1 a2 i) → _) ∧ (¬ -nI (kyT B a1 a2 j) < -nI (kyT B a1 a2 i) → _))
        refine ⟨fun q => absurd q (by rw [n_lt (by omega) (by omega)]; omega), fun _ => ⟨fun q => ?_, fun q => ?_⟩⟩
        · rw [cmp] at q
          have n2 := n2 (by show ¬ kyT B a1 a2 j ≤ _; omega)
          have g := nxt (-nI (kyT B a1 a2 i)) I3 L3 fr W3 (fun j hj => by
            rw [n2] at hj
            cases hj
            exact ⟨by omega, rfl⟩)
          rw [n2] at g
          exact g
        · rw [cmp] at q
          have n1 := n1 (by show kyT B a1 a2 j ≤ _; omega)
          have g := nxt (-nI (kyT B a1 a2 j)) I3 L3 fr W3 (fun j2 hj => by
            rw [n1] at hj
            cases hj
            exact ⟨by omega, rfl⟩)
          rw [n1] at g
          exact g
  exact loop (B.wd a1 a2).v.m 0 (by omega) (fun _ => false) (nI 0) I L (fun a _ => rfl) W (fun j hj => by cases hj)
theorem op_key : H_key := by
  intro a1 a2 a3 h3
  obtain ⟨f, hf, rfl⟩ : ∃ s, s < 2 ∧ a3 = nI s := by
    rcases h3 with rfl | rfl
    · exact ⟨0, by omega, rfl⟩
    · exact ⟨1, by omega, rfl⟩
  refine Op2.q (fun B => if tkB B a1 a2 = true then (if f = 0 then optI (lsN (kyP B a1 a2) (B.wd a1 a2).v.n) else optI (lsN (kyT B a1 a2) (B.wd a1 a2).v.m)) else nM) (fun B I b L K ok hc k => ?_) (fun B I b L K ok hm k => ?_)
  · refine v_S_key_0 (c_takeW ok hc (fun g2 I1 L1 f1 W1 l0 => ?_) (fun g2 => ?_))
    · have hn := W1.vil.2.1.2
      have hm := W1.vil.2.2.1
      have kk := fun (I' : MI) (L' : ML) (q : ∀ a, a < 154 ∨ 186 ≤ a → I' a = I1 a) => k b I' L' (fun a ha => (q a (by omega)).trans (f1 a (by omega)))
      rw [g2] at kk
      rcases (by omega : f = 0 ∨ f = 1) with rfl | rfl
      · simp (disch := first | omega | assumption) only [n_lit, n_gLt, n_gLe, n_gEq, n_gEq2, n_gLe2, n_gLt2, n_m1, n_add, n_mul, n_lt, n_le, n_eq, n_cl, n_in, n_rem, n_mlt, n_mle, n_ltm, n_lem, n_eqm, n_meq, n_bit, n_shl, n_b0, n_b1, n_sub, n_inT, nT, nF, lT, lF, eT, eF, not_false_eq_true, not_true_eq_false, sI_at, sI_c, sI_j, aI_at, aI_c, sL_at, sL_c, sL_j, true_and, and_true, not_true_eq_false, not_false_eq_true, forall_const, true_implies, false_implies, implies_true, if_true, if_false, ite_true, ite_false, Bool.not_eq_true, Bool.not_eq_false, Bool.true_eq_false, Bool.false_eq_true, false_and, and_false, or_true, true_or, false_or, or_false]
        exact c_bestSilent ok g2 hn l0 kk
      · simp (disch := first | omega | assumption) only [n_lit, n_gLt, n_gLe, n_gEq, n_gEq2, n_gLe2, n_gLt2, n_m1, n_add, n_mul, n_lt, n_le, n_eq, n_cl, n_in, n_rem, n_mlt, n_mle, n_ltm, n_lem, n_eqm, n_meq, n_bit, n_shl, n_b0, n_b1, n_sub, n_inT, nT, nF, lT, lF, eT, eF, not_false_eq_true, not_true_eq_false, sI_at, sI_c, sI_j, aI_at, aI_c, sL_at, sL_c, sL_j, true_and, and_true, not_true_eq_false, not_false_eq_true, forall_const, true_implies, false_implies, implies_true, if_true, if_false, ite_true, ite_false, Bool.not_eq_true, Bool.not_eq_false, Bool.true_eq_false, Bool.false_eq_true, false_and, and_false, or_true, true_or, false_or, or_false]
        exact c_bestWithoutTie ok g2 hn hm l0 kk
    · have kk := k b I L (fun _ _ => rfl)
      rw [g2] at kk
      simp (disch := first | omega | assumption) only [n_lit, n_gLt, n_gLe, n_gEq, n_gEq2, n_gLe2, n_gLt2, n_m1, n_add, n_mul, n_lt, n_le, n_eq, n_cl, n_in, n_rem, n_mlt, n_mle, n_ltm, n_lem, n_eqm, n_meq, n_bit, n_shl, n_b0, n_b1, n_sub, n_inT, nT, nF, lT, lF, eT, eF, not_false_eq_true, not_true_eq_false, sI_at, sI_c, sI_j, aI_at, aI_c, sL_at, sL_c, sL_j, true_and, and_true, not_true_eq_false, not_false_eq_true, forall_const, true_implies, false_implies, implies_true, if_true, if_false, ite_true, ite_false, Bool.not_eq_true, Bool.not_eq_false, Bool.true_eq_false, Bool.false_eq_true, false_and, and_false, or_true, true_or, false_or, or_false] at kk
      simp (disch := first | omega | assumption) only [n_lit, n_gLt, n_gLe, n_gEq, n_gEq2, n_gLe2, n_gLt2, n_m1, n_add, n_mul, n_lt, n_le, n_eq, n_cl, n_in, n_rem, n_mlt, n_mle, n_ltm, n_lem, n_eqm, n_meq, n_bit, n_shl, n_b0, n_b1, n_sub, n_inT, nT, nF, lT, lF, eT, eF, not_false_eq_true, not_true_eq_false, sI_at, sI_c, sI_j, aI_at, aI_c, sL_at, sL_c, sL_j, true_and, and_true, not_true_eq_false, not_false_eq_true, forall_const, true_implies, false_implies, implies_true, if_true, if_false, ite_true, ite_false, Bool.not_eq_true, Bool.not_eq_false, Bool.true_eq_false, Bool.false_eq_true, false_and, and_false, or_true, true_or, false_or, or_false]
      exact kk
  · refine v_M_key_0 (cm_bothW ok hm (fun g2 I1 L1 o f1 W1 => ?_) (fun g2 I1 f1 => ?_))
    · have kk := fun (I' : MI) (L' : ML) (q : ∀ a, a < 186 ∨ a = 187 ∨ a = 188 ∨ a = 189 ∨ 202 ≤ a → I' a = I1 a) => k b I' L' (fun a ha => (q a (by omega)).trans (f1 a (by omega)))
      rw [g2] at kk
      rcases (by omega : f = 0 ∨ f = 1) with rfl | rfl
      · have g := cm_keyP W1 kk
        simp (disch := first | omega | assumption) only [n_lit, n_gLt, n_gLe, n_gEq, n_gEq2, n_gLe2, n_gLt2, n_m1, n_add, n_mul, n_lt, n_le, n_eq, n_cl, n_in, n_rem, n_mlt, n_mle, n_ltm, n_lem, n_eqm, n_meq, n_bit, n_shl, n_b0, n_b1, n_sub, n_inT, nT, nF, lT, lF, eT, eF, not_false_eq_true, not_true_eq_false, sI_at, sI_c, sI_j, aI_at, aI_c, sL_at, sL_c, sL_j, true_and, and_true, not_true_eq_false, not_false_eq_true, forall_const, true_implies, false_implies, implies_true, if_true, if_false, ite_true, ite_false, Bool.not_eq_true, Bool.not_eq_false, Bool.true_eq_false, Bool.false_eq_true, false_and, and_false, or_true, true_or, false_or, or_false]
        exact g
      · have g := cm_keyT rfl W1 kk
        simp (disch := first | omega | assumption) only [n_lit, n_gLt, n_gLe, n_gEq, n_gEq2, n_gLe2, n_gLt2, n_m1, n_add, n_mul, n_lt, n_le, n_eq, n_cl, n_in, n_rem, n_mlt, n_mle, n_ltm, n_lem, n_eqm, n_meq, n_bit, n_shl, n_b0, n_b1, n_sub, n_inT, nT, nF, lT, lF, eT, eF, not_false_eq_true, not_true_eq_false, sI_at, sI_c, sI_j, aI_at, aI_c, sL_at, sL_c, sL_j, true_and, and_true, not_true_eq_false, not_false_eq_true, forall_const, true_implies, false_implies, implies_true, if_true, if_false, ite_true, ite_false, Bool.not_eq_true, Bool.not_eq_false, Bool.true_eq_false, Bool.false_eq_true, false_and, and_false, or_true, true_or, false_or, or_false]
        exact g
    · have kk := k b I1 L (fun a ha => f1 a (by omega))
      rw [g2] at kk
      simp (disch := first | omega | assumption) only [n_lit, n_gLt, n_gLe, n_gEq, n_gEq2, n_gLe2, n_gLt2, n_m1, n_add, n_mul, n_lt, n_le, n_eq, n_cl, n_in, n_rem, n_mlt, n_mle, n_ltm, n_lem, n_eqm, n_meq, n_bit, n_shl, n_b0, n_b1, n_sub, n_inT, nT, nF, lT, lF, eT, eF, not_false_eq_true, not_true_eq_false, sI_at, sI_c, sI_j, aI_at, aI_c, sL_at, sL_c, sL_j, true_and, and_true, not_true_eq_false, not_false_eq_true, forall_const, true_implies, false_implies, implies_true, if_true, if_false, ite_true, ite_false, Bool.not_eq_true, Bool.not_eq_false, Bool.true_eq_false, Bool.false_eq_true, false_and, and_false, or_true, true_or, false_or, or_false] at kk
      simp (disch := first | omega | assumption) only [n_lit, n_gLt, n_gLe, n_gEq, n_gEq2, n_gLe2, n_gLt2, n_m1, n_add, n_mul, n_lt, n_le, n_eq, n_cl, n_in, n_rem, n_mlt, n_mle, n_ltm, n_lem, n_eqm, n_meq, n_bit, n_shl, n_b0, n_b1, n_sub, n_inT, nT, nF, lT, lF, eT, eF, not_false_eq_true, not_true_eq_false, sI_at, sI_c, sI_j, aI_at, aI_c, sL_at, sL_c, sL_j, true_and, and_true, not_true_eq_false, not_false_eq_true, forall_const, true_implies, false_implies, implies_true, if_true, if_false, ite_true, ite_false, Bool.not_eq_true, Bool.not_eq_false, Bool.true_eq_false, Bool.false_eq_true, false_and, and_false, or_true, true_or, false_or, or_false]
      exact kk
