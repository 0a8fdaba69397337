/-! QUESTIONS of a run: chain, against the reference -/
theorem hby_nx {w : Wd} (ok : w.v.ok 41) (p : Nat) : hbyI w 0 p (hon w 0 p 201) = optI (nxO w p) := by
  rw [nxO_I]
  cases hon w 0 p 201 with
  | none => rfl
  | some e => exact hby_eq ok (by omega) p e
theorem cm_chain {w : Wd} {p : Nat} {k : Int32} {I : MI} {L : ML} (ok : w.v.ok 41) (hp : p < w.v.n) (hk0 : ¬ k < nM) {b : Bool} {K : Int32 → Bool → MI → ML → Prop} (B : ∀ q, q < w.v.n → I 199 (2 * q) = optI (nxO w q)) (hK : K (chS w k (w.v.n + 1) (fun j => decide (j = p)) 0 (nxO w p)) b I L) : SW m_M_chain 49 [vr 22 186, un, un, un, vi k, vi (nI (2 ^ p)), vi (nI 0), vi (optI (nxO w p))] [] b I L (kI K) := by
  have hn := ok.1.2
  have off : ∀ (x5 : Int32) (y : Nat), K (endV k y) b I L → SW m_M_chain 49 [vr 22 186, un, un, un, vi k, vi x5, vi (nI y), vi nM] [] b I L (kI K) := by
    intro x5 y kk
    unfold endV at kk
    refine v_M_chain_49 ?_
    by_cases c : k = nM
    · rw [if_pos c] at kk
      subst c
      exact ⟨fun _ => ⟨fun z => absurd rfl z, fun _ => kk⟩, fun z => absurd (by decide) z⟩
    · rw [if_neg c] at kk
      exact ⟨fun _ => ⟨fun _ => kk, fun z => absurd c z⟩, fun z => absurd (by decide) z⟩
  have loop : ∀ u i, i + u = w.v.n + 1 → ∀ (S : Nat → Bool) (x : Int32) (p : Nat), (∀ q, q < 32 → bt x q = S q) → cntB S w.v.n = i + 1 → p < w.v.n → K (chS w k u S i (nxO w p)) b I L → SW m_M_chain 49 [vr 22 186, un, un, un, vi k, vi x, vi (nI i), vi (optI (nxO w p))] [] b I L (kI K) := by
    intro u
    induction u with
    | zero =>
      intro i hi S x p hx hc hp kk
      have := cntB_le S w.v.n
      omega
    | succ u ih =>
      intro i hi S x p hx hc hp kk
      cases e2 : nxO w p with
      | none =>
        rw [e2] at kk
        exact off x i kk
      | some q =>
        have hq := nxO_lt ok e2
        have hxq := hx q (by omega)
        have bq := B q hq
        rw [e2] at kk
        unfold chS at kk
        unfold optI
        refine v_M_chain_49 ?_
        by_cases c : nI i = k
        · rw [if_pos c] at kk
          subst c
          simp (disch := first | omega | assumption) only [n_lit, n_gLt, n_gLe, n_gEq, n_gEq2, n_gLe2, n_gLt2, n_m1, n_add, n_mul, n_lt, n_le, n_eq, n_cl, n_in, n_rem, n_mlt, n_mle, n_ltm, n_lem, n_eqm, n_meq, n_bit, n_shl, n_b0, n_b1, n_sub, n_inT, nT, nF, lT, lF, eT, eF, not_false_eq_true, not_true_eq_false, sI_at, sI_c, sI_j, aI_at, aI_c, sL_at, sL_c, sL_j, true_and, and_true, not_true_eq_false, not_false_eq_true, forall_const, true_implies, false_implies, implies_true, if_true, if_false, ite_true, ite_false, Bool.not_eq_true, Bool.not_eq_false, Bool.true_eq_false, Bool.false_eq_true, false_and, and_false, or_true, true_or, false_or, or_false]
          exact kk
        · rw [if_neg c] at kk
          cases hS : S q with
          | true =>
            rw [hS] at hxq
            rw [if_pos hS] at kk
            have g := off x (i + 1) kk
            simp (disch := first | omega | assumption) only [n_lit, n_gLt, n_gLe, n_gEq, n_gEq2, n_gLe2, n_gLt2, n_m1, n_add, n_mul, n_lt, n_le, n_eq, n_cl, n_in, n_rem, n_mlt, n_mle, n_ltm, n_lem, n_eqm, n_meq, n_bit, n_shl, n_b0, n_b1, n_sub, n_inT, nT, nF, lT, lF, eT, eF, not_false_eq_true, not_true_eq_false, sI_at, sI_c, sI_j, aI_at, aI_c, sL_at, sL_c, sL_j, true_and, and_true, not_true_eq_false, not_false_eq_true, forall_const, true_implies, false_implies, implies_true, if_true, if_false, ite_true, ite_false, Bool.not_eq_true, Bool.not_eq_false, Bool.true_eq_false, Bool.false_eq_true, false_and, and_false, or_true, true_or, false_or, or_false, hxq, Bool.toNat_true, c]
            exact g
          | false =>
            rw [hS] at hxq
            rw [if_neg (by rw [hS]; exact Bool.false_ne_true)] at kk
            have g := ih (i + 1) (by omega) (fun j => S j || decide (j = q)) (x ||| nI (2 ^ q)) q (fun j hj => by
              rw [b_or, hx j hj, b_2p hj]
              congr 1
              exact decide_eq_decide.mpr ⟨fun z => z.symm, fun z => z.symm⟩) (by rw [cntB_one hS hq, hc]) hq kk
            simp (disch := first | omega | assumption) only [n_lit, n_gLt, n_gLe, n_gEq, n_gEq2, n_gLe2, n_gLt2, n_m1, n_add, n_mul, n_lt, n_le, n_eq, n_cl, n_in, n_rem, n_mlt, n_mle, n_ltm, n_lem, n_eqm, n_meq, n_bit, n_shl, n_b0, n_b1, n_sub, n_inT, nT, nF, lT, lF, eT, eF, not_false_eq_true, not_true_eq_false, sI_at, sI_c, sI_j, aI_at, aI_c, sL_at, sL_c, sL_j, true_and, and_true, not_true_eq_false, not_false_eq_true, forall_const, true_implies, false_implies, implies_true, if_true, if_false, ite_true, ite_false, Bool.not_eq_true, Bool.not_eq_false, Bool.true_eq_false, Bool.false_eq_true, false_and, and_false, or_true, true_or, false_or, or_false, hxq, Bool.toNat_false, c, bq]
            exact g
  refine loop (w.v.n + 1) 0 (by omega) (fun j => decide (j = p)) (nI (2 ^ p)) p (fun j hj => by
    rw [b_2p hj]
    exact decide_eq_decide.mpr ⟨fun z => z.symm, fun z => z.symm⟩) ?_ hp hK
  have := cntB_one (S := fun _ => false) (q := p) rfl hp
  rw [cntB_0] at this
  rw [← this]
  exact cntB_cong (fun i _ => (Bool.false_or _).symm)
theorem op_chain : H_chain := by
  intro a1 a2 a3 a4
  refine Op2.q (fun B => if a4 < nM then -nI 2 else if (hpB B a1 a3 && tkB B a1 a2) = true then chS (B.wd a1 a2) a4 ((B.wd a1 a2).v.n + 1) (fun j => decide (j = a3.toNatClampNeg)) 0 (nxO (B.wd a1 a2) a3.toNatClampNeg) else -nI 2) (fun B I b L K ok hc k => ?_) (fun B I b L K ok hm k => ?_)
  · refine v_S_chain_0 ⟨fun c => ?_, fun c => ?_⟩
    · have c : a4 < nM := c
      have kk := k b I L (fun _ _ => rfl)
      rw [if_pos c] at kk
      exact kk
    · have c : ¬ a4 < nM := c
      simp only [if_neg c] at k
      refine c_hasPerson ok hc (fun g3 => ?_) (fun g3 => ?_)
      · simp (disch := first | omega | assumption) only [n_lit, n_gLt, n_gLe, n_gEq, n_gEq2, n_gLe2, n_gLt2, n_m1, n_add, n_mul, n_lt, n_le, n_eq, n_cl, n_in, n_rem, n_mlt, n_mle, n_ltm, n_lem, n_eqm, n_meq, n_bit, n_shl, n_b0, n_b1, n_sub, n_inT, nT, nF, lT, lF, eT, eF, not_false_eq_true, not_true_eq_false, sI_at, sI_c, sI_j, aI_at, aI_c, sL_at, sL_c, sL_j, true_and, and_true, not_true_eq_false, not_false_eq_true, forall_const, true_implies, false_implies, implies_true, if_true, if_false, ite_true, ite_false, Bool.not_eq_true, Bool.not_eq_false, Bool.true_eq_false, Bool.false_eq_true, false_and, and_false, or_true, true_or, false_or, or_false]
        refine c_takeW ok hc (fun g2 I1 L1 f1 W1 _ => ?_) (fun g2 => ?_)
        · have hn := W1.vil.2.1.2
          have g4 := hp_tk (a3 := a3) ok g2
          rw [g3] at g4
          obtain ⟨p, hp, rfl⟩ := (inR_iff (by omega)).mp g4.symm
          simp (disch := first | omega | assumption) only [n_lit, n_gLt, n_gLe, n_gEq, n_gEq2, n_gLe2, n_gLt2, n_m1, n_add, n_mul, n_lt, n_le, n_eq, n_cl, n_in, n_rem, n_mlt, n_mle, n_ltm, n_lem, n_eqm, n_meq, n_bit, n_shl, n_b0, n_b1, n_sub, n_inT, nT, nF, lT, lF, eT, eF, not_false_eq_true, not_true_eq_false, sI_at, sI_c, sI_j, aI_at, aI_c, sL_at, sL_c, sL_j, true_and, and_true, not_true_eq_false, not_false_eq_true, forall_const, true_implies, false_implies, implies_true, if_true, if_false, ite_true, ite_false, Bool.not_eq_true, Bool.not_eq_false, Bool.true_eq_false, Bool.false_eq_true, false_and, and_false, or_true, true_or, false_or, or_false]
          refine c_live (w := B.wd a1 a2) (s0 := 0) (U := 201) (by omega) (by omega) (Or.inr ⟨by omega, rfl⟩) (Or.inl rfl) W1 (fun e he => absurd he (Nat.not_lt_zero _)) (by omega) (fun N I2 L2 f2 l2 n1 n2 rows R _ hN _ => ?_)
          have hN := hN rfl
          clear R
          subst hN
          have W2 : WL (B.wd a1 a2) I2 L2 := W1.fr (fun a c1 c2 => f2 a (by omega)) (fun a ha => l2 a (by omega) (by omega) (by omega))
          have kk := k b I2 L2 (fun a ha => (f2 a (by omega)).trans (f1 a (by omega)))
          rw [g2, g3, n_cl (by omega)] at kk
          exact c_tellersBehind W2 hp rows kk
        · have kk := k b I L (fun _ _ => rfl)
          rw [g2, Bool.and_false] at kk
          simp (disch := first | omega | assumption) only [n_lit, n_gLt, n_gLe, n_gEq, n_gEq2, n_gLe2, n_gLt2, n_m1, n_add, n_mul, n_lt, n_le, n_eq, n_cl, n_in, n_rem, n_mlt, n_mle, n_ltm, n_lem, n_eqm, n_meq, n_bit, n_shl, n_b0, n_b1, n_sub, n_inT, nT, nF, lT, lF, eT, eF, not_false_eq_true, not_true_eq_false, sI_at, sI_c, sI_j, aI_at, aI_c, sL_at, sL_c, sL_j, true_and, and_true, not_true_eq_false, not_false_eq_true, forall_const, true_implies, false_implies, implies_true, if_true, if_false, ite_true, ite_false, Bool.not_eq_true, Bool.not_eq_false, Bool.true_eq_false, Bool.false_eq_true, false_and, and_false, or_true, true_or, false_or, or_false] at kk
          simp (disch := first | omega | assumption) only [n_lit, n_gLt, n_gLe, n_gEq, n_gEq2, n_gLe2, n_gLt2, n_m1, n_add, n_mul, n_lt, n_le, n_eq, n_cl, n_in, n_rem, n_mlt, n_mle, n_ltm, n_lem, n_eqm, n_meq, n_bit, n_shl, n_b0, n_b1, n_sub, n_inT, nT, nF, lT, lF, eT, eF, not_false_eq_true, not_true_eq_false, sI_at, sI_c, sI_j, aI_at, aI_c, sL_at, sL_c, sL_j, true_and, and_true, not_true_eq_false, not_false_eq_true, forall_const, true_implies, false_implies, implies_true, if_true, if_false, ite_true, ite_false, Bool.not_eq_true, Bool.not_eq_false, Bool.true_eq_false, Bool.false_eq_true, false_and, and_false, or_true, true_or, false_or, or_false]
          exact kk
      · have kk := k b I L (fun _ _ => rfl)
        rw [g3, Bool.false_and] at kk
        simp (disch := first | omega | assumption) only [n_lit, n_gLt, n_gLe, n_gEq, n_gEq2, n_gLe2, n_gLt2, n_m1, n_add, n_mul, n_lt, n_le, n_eq, n_cl, n_in, n_rem, n_mlt, n_mle, n_ltm, n_lem, n_eqm, n_meq, n_bit, n_shl, n_b0, n_b1, n_sub, n_inT, nT, nF, lT, lF, eT, eF, not_false_eq_true, not_true_eq_false, sI_at, sI_c, sI_j, aI_at, aI_c, sL_at, sL_c, sL_j, true_and, and_true, not_true_eq_false, not_false_eq_true, forall_const, true_implies, false_implies, implies_true, if_true, if_false, ite_true, ite_false, Bool.not_eq_true, Bool.not_eq_false, Bool.true_eq_false, Bool.false_eq_true, false_and, and_false, or_true, true_or, false_or, or_false] at kk
        simp (disch := first | omega | assumption) only [n_lit, n_gLt, n_gLe, n_gEq, n_gEq2, n_gLe2, n_gLt2, n_m1, n_add, n_mul, n_lt, n_le, n_eq, n_cl, n_in, n_rem, n_mlt, n_mle, n_ltm, n_lem, n_eqm, n_meq, n_bit, n_shl, n_b0, n_b1, n_sub, n_inT, nT, nF, lT, lF, eT, eF, not_false_eq_true, not_true_eq_false, sI_at, sI_c, sI_j, aI_at, aI_c, sL_at, sL_c, sL_j, true_and, and_true, not_true_eq_false, not_false_eq_true, forall_const, true_implies, false_implies, implies_true, if_true, if_false, ite_true, ite_false, Bool.not_eq_true, Bool.not_eq_false, Bool.true_eq_false, Bool.false_eq_true, false_and, and_false, or_true, true_or, false_or, or_false]
        exact kk
  · refine v_M_chain_0 ⟨fun c => ?_, fun c => ?_⟩
    · have c : a4 < nM := c
      have kk := k b I L (fun _ _ => rfl)
      rw [if_pos c] at kk
      exact kk
    · have c : ¬ a4 < nM := c
      simp only [if_neg c] at k
      refine cm_bothW ok hm (fun g2 I1 L1 o f1 W1 => ?_) (fun g2 I1 f1 => ?_)
      · have hn := W1.1.2.1.1.2
        simp (disch := first | omega | assumption) only [n_lit, n_gLt, n_gLe, n_gEq, n_gEq2, n_gLe2, n_gLt2, n_m1, n_add, n_mul, n_lt, n_le, n_eq, n_cl, n_in, n_rem, n_mlt, n_mle, n_ltm, n_lem, n_eqm, n_meq, n_bit, n_shl, n_b0, n_b1, n_sub, n_inT, nT, nF, lT, lF, eT, eF, not_false_eq_true, not_true_eq_false, sI_at, sI_c, sI_j, aI_at, aI_c, sL_at, sL_c, sL_j, true_and, and_true, not_true_eq_false, not_false_eq_true, forall_const, true_implies, false_implies, implies_true, if_true, if_false, ite_true, ite_false, Bool.not_eq_true, Bool.not_eq_false, Bool.true_eq_false, Bool.false_eq_true, false_and, and_false, or_true, true_or, false_or, or_false]
        refine cm_isPerson W1 (fun g4 => ?_) (fun g4 => ?_)
        · have g3 := (hp_tk (a3 := a3) ok g2).trans g4
          obtain ⟨p, hp, rfl⟩ := (inR_iff (by omega)).mp g4
          simp (disch := first | omega | assumption) only [n_lit, n_gLt, n_gLe, n_gEq, n_gEq2, n_gLe2, n_gLt2, n_m1, n_add, n_mul, n_lt, n_le, n_eq, n_cl, n_in, n_rem, n_mlt, n_mle, n_ltm, n_lem, n_eqm, n_meq, n_bit, n_shl, n_b0, n_b1, n_sub, n_inT, nT, nF, lT, lF, eT, eF, not_false_eq_true, not_true_eq_false, sI_at, sI_c, sI_j, aI_at, aI_c, sL_at, sL_c, sL_j, true_and, and_true, not_true_eq_false, not_false_eq_true, forall_const, true_implies, false_implies, implies_true, if_true, if_false, ite_true, ite_false, Bool.not_eq_true, Bool.not_eq_false, Bool.true_eq_false, Bool.false_eq_true, false_and, and_false, or_true, true_or, false_or, or_false]
          refine cm_runs W1 (Or.inr rfl) (fun N I2 L2 f2 l2 n1 D R hN _ => ?_)
          have hN := hN rfl
          clear R
          subst hN
          have kk := k b I2 L2 (fun a ha => (f2.1 a (by omega)).trans (f1 a (by omega)))
          rw [g2, g3, n_cl (by omega)] at kk
          have bq : ∀ q, q < (B.wd a1 a2).v.n → I2 199 (2 * q) = optI (nxO (B.wd a1 a2) q) := fun q hq => ((D.2.2.1 0 (by omega) q hq).2).trans (hby_nx W1.1.2.1 q)
          have g := cm_chain W1.1.2.1 hp c bq kk
          have bp := bq p hp
          simp (disch := first | omega | assumption) only [n_lit, n_gLt, n_gLe, n_gEq, n_gEq2, n_gLe2, n_gLt2, n_m1, n_add, n_mul, n_lt, n_le, n_eq, n_cl, n_in, n_rem, n_mlt, n_mle, n_ltm, n_lem, n_eqm, n_meq, n_bit, n_shl, n_b0, n_b1, n_sub, n_inT, nT, nF, lT, lF, eT, eF, not_false_eq_true, not_true_eq_false, sI_at, sI_c, sI_j, aI_at, aI_c, sL_at, sL_c, sL_j, true_and, and_true, not_true_eq_false, not_false_eq_true, forall_const, true_implies, false_implies, implies_true, if_true, if_false, ite_true, ite_false, Bool.not_eq_true, Bool.not_eq_false, Bool.true_eq_false, Bool.false_eq_true, false_and, and_false, or_true, true_or, false_or, or_false, bp]
          exact g
        · have g3 := (hp_tk (a3 := a3) ok g2).trans g4
          have kk := k b I1 L1 (fun a ha => f1 a (by omega))
          rw [g3, Bool.false_and] at kk
          simp (disch := first | omega | assumption) only [n_lit, n_gLt, n_gLe, n_gEq, n_gEq2, n_gLe2, n_gLt2, n_m1, n_add, n_mul, n_lt, n_le, n_eq, n_cl, n_in, n_rem, n_mlt, n_mle, n_ltm, n_lem, n_eqm, n_meq, n_bit, n_shl, n_b0, n_b1, n_sub, n_inT, nT, nF, lT, lF, eT, eF, not_false_eq_true, not_true_eq_false, sI_at, sI_c, sI_j, aI_at, aI_c, sL_at, sL_c, sL_j, true_and, and_true, not_true_eq_false, not_false_eq_true, forall_const, true_implies, false_implies, implies_true, if_true, if_false, ite_true, ite_false, Bool.not_eq_true, Bool.not_eq_false, Bool.true_eq_false, Bool.false_eq_true, false_and, and_false, or_true, true_or, false_or, or_false] at kk
          simp (disch := first | omega | assumption) only [n_lit, n_gLt, n_gLe, n_gEq, n_gEq2, n_gLe2, n_gLt2, n_m1, n_add, n_mul, n_lt, n_le, n_eq, n_cl, n_in, n_rem, n_mlt, n_mle, n_ltm, n_lem, n_eqm, n_meq, n_bit, n_shl, n_b0, n_b1, n_sub, n_inT, nT, nF, lT, lF, eT, eF, not_false_eq_true, not_true_eq_false, sI_at, sI_c, sI_j, aI_at, aI_c, sL_at, sL_c, sL_j, true_and, and_true, not_true_eq_false, not_false_eq_true, forall_const, true_implies, false_implies, implies_true, if_true, if_false, ite_true, ite_false, Bool.not_eq_true, Bool.not_eq_false, Bool.true_eq_false, Bool.false_eq_true, false_and, and_false, or_true, true_or, false_or, or_false]
          exact kk
      · have kk := k b I1 L (fun a ha => f1 a (by omega))
        rw [g2, Bool.and_false] at kk
        simp (disch := first | omega | assumption) only [n_lit, n_gLt, n_gLe, n_gEq, n_gEq2, n_gLe2, n_gLt2, n_m1, n_add, n_mul, n_lt, n_le, n_eq, n_cl, n_in, n_rem, n_mlt, n_mle, n_ltm, n_lem, n_eqm, n_meq, n_bit, n_shl, n_b0, n_b1, n_sub, n_inT, nT, nF, lT, lF, eT, eF, not_false_eq_true, not_true_eq_false, sI_at, sI_c, sI_j, aI_at, aI_c, sL_at, sL_c, sL_j, true_and, and_true, not_true_eq_false, not_false_eq_true, forall_const, true_implies, false_implies, implies_true, if_true, if_false, ite_true, ite_false, Bool.not_eq_true, Bool.not_eq_false, Bool.true_eq_false, Bool.false_eq_true, false_and, and_false, or_true, true_or, false_or, or_false] at kk
        simp (disch := first | omega | assumption) only [n_lit, n_gLt, n_gLe, n_gEq, n_gEq2, n_gLe2, n_gLt2, n_m1, n_add, n_mul, n_lt, n_le, n_eq, n_cl, n_in, n_rem, n_mlt, n_mle, n_ltm, n_lem, n_eqm, n_meq, n_bit, n_shl, n_b0, n_b1, n_sub, n_inT, nT, nF, lT, lF, eT, eF, not_false_eq_true, not_true_eq_false, sI_at, sI_c, sI_j, aI_at, aI_c, sL_at, sL_c, sL_j, true_and, and_true, not_true_eq_false, not_false_eq_true, forall_const, true_implies, false_implies, implies_true, if_true, if_false, ite_true, ite_false, Bool.not_eq_true, Bool.not_eq_false, Bool.true_eq_false, Bool.false_eq_true, false_and, and_false, or_true, true_or, false_or, or_false]
        exact kk
