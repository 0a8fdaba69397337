/-! WHAT-IFS: drawn worlds, the reference; drawn -/
theorem cm_drawnR {b : Bool} {I : MI} {L : ML} {K : Int32 → Bool → MI → ML → Prop} (hK : K (drR (I 186 44)) b (sI I 186 44 (drX (I 186 44))) L) : CI m_M_drawn [vr 22 186, vi (nI 10)] b I L K := v_M_drawn_0 ⟨by decide, hK⟩
theorem cm_world {v : Vil} {t : Tel} {x : Wi} {o : Nat} {w : Wd} {s : Int32} {I : MI} {L : ML} (W : WM v t x o w I L) {b : Bool} {K : Bool → MI → ML → Prop} (hK : ∀ I' L', (∀ a, a ≠ 186 → I' a = I a) → (∀ j, j ≠ 44 → I' 186 j = I 186 j) → WM v t (x.wdd (drB v s)) o (mkW w.v v.m t (x.wdd (drB v s))) I' L' → K b I' L') : CV m_M_world [vr 22 186, vi s] b I L K := by
  have hm := W.1.2.2.1.2.1
  have hst : ∀ i, i < v.m → v.st i ≤ 9 := fun i hi => (W.1.2.2.1.2.2.2.2.2.2 i hi).2.2.2.2.2
  have loop : ∀ n i, i + n = v.m → ∀ (I1 : MI) (L1 : ML), (∀ a, a ≠ 186 → I1 a = I a) → (∀ j, j ≠ 44 → I1 186 j = I 186 j) → I1 186 44 = drS s i → WM v t (x.wdd (fun k => decide (k < i) && drB v s k)) o (mkW w.v v.m t (x.wdd (fun k => decide (k < i) && drB v s k))) I1 L1 → SW m_M_world 12 [vr 22 186, un, vi (nI i)] [] b I1 L1 (kV K) := by
    intro n
    induction n with
    | zero =>
      intro i hi I1 L1 f1 g1 e1 W1
      obtain rfl : i = v.m := by omega
      have e : (fun k => decide (k < v.m) && drB v s k) = drB v s := funext fun k => by
        unfold drB
        cases decide (k < v.m) <;> rfl
      rw [e] at W1
      refine v_M_world_12 (cm_ties W1 ⟨fun _ => hK I1 L1 f1 g1 W1, fun z => absurd (by rw [n_le (by omega) (by omega)]; exact Nat.le_refl _) z⟩)
    | succ n ih =>
      intro i hi I1 L1 f1 g1 e1 W1
      have hs := hst i (by omega)
      have y := W1.2.2.2.1.2.2.2.2.2.1
      have hb : drB v s i = !decide (drR (drS s i) < nI (v.st i)) := by
        unfold drB
        rw [decide_eq_true (by omega : i < v.m), Bool.true_and]
      have W2 := W1.fr (I' := sI I1 186 44 (drX (I1 186 44))) (fun j hj => sI_j (by omega)) (sI_c (by omega)) rfl
      refine v_M_world_12 (cm_ties W1 ⟨fun z => absurd z (by rw [n_le (by omega) (by omega)]; omega), fun _ => ?_⟩)
      refine cm_drawnR (cm_tieOf (k := i) (q := 3) W2 (by omega) (by omega) ?_)
      rw [e1] at W2 ⊢
      rw [show nI i + (1 : Int32) = nI (i + 1) from n_add i 1]
      have fr : ∀ a, a ≠ 186 → sI I1 186 44 (drX (drS s i)) a = I a := fun a ha => by rw [sI_c ha, f1 a ha]
      have fj : ∀ j, j ≠ 44 → sI I1 186 44 (drX (drS s i)) 186 j = I 186 j := fun j hj => by rw [sI_j hj, g1 j hj]
      have dd : ∀ m : Int64, (∀ k, k < 64 → bl m k = (decide (k < i + 1) && drB v s k)) → SW m_M_world 12 [vr 22 186, un, vi (nI (i + 1))] [] b (sI I1 186 44 (drX (drS s i))) (sL L1 186 20 m) (kV K) := fun m hm2 => by
        have q := WM_dd (g := fun k => decide (k < i + 1) && drB v s k) hm2 (by
          show (decide (v.m < i + 1) && (decide (v.m < v.m) && _)) = false
          rw [decide_eq_false (Nat.lt_irrefl _), Bool.false_and, Bool.and_false]) W2
        exact ih (i + 1) (by omega) _ _ fr fj (sI_at _ _ _ _) q
      show (nI (v.st i) ≤ drR (drS s i) → _) ∧ (¬ nI (v.st i) ≤ drR (drS s i) → _)
      refine ⟨fun c => ?_, fun c => ?_⟩
      · rw [decide_eq_false (Int32.not_lt.mpr c)] at hb
        refine dd _ (fun k hk => ?_)
        rw [l_or, y k hk, l_one (by omega) hk]
        show ((decide (k < i) && drB v s k) || decide (k = i)) = _
        by_cases e : k = i
        · subst e
          rw [hb, decide_eq_true rfl, Bool.or_true, decide_eq_true (by omega : k < k + 1)]
          rfl
        · rw [decide_eq_false e, Bool.or_false]
          congr 1
          exact decide_eq_decide.mpr ⟨fun _ => by omega, fun _ => by omega⟩
      · rw [decide_eq_true (Int32.not_le.mp c)] at hb
        refine dd _ (fun k hk => ?_)
        rw [l_or, y k hk, l_0, Bool.or_false]
        show (decide (k < i) && drB v s k) = _
        by_cases e : k = i
        · subst e
          rw [hb]
          cases decide (k < k) <;> cases decide (k < k + 1) <;> rfl
        · congr 1
          exact decide_eq_decide.mpr ⟨fun _ => by omega, fun _ => by omega⟩
  refine v_M_world_0 (loop v.m 0 (by omega) _ _ (fun a ha => sI_c ha) (fun j hj => sI_j hj) (sI_at _ _ _ _) ?_)
  have q := WM_dd (g := fun k => decide (k < 0) && drB v s k) (m := (0 : Int64)) (fun p _ => by
    rw [l_0, decide_eq_false (Nat.not_lt_zero _), Bool.false_and]) (by
    show (decide (v.m < 0) && _) = false
    rw [decide_eq_false (Nat.not_lt_zero _), Bool.false_and]) (W.fr (I' := sI I 186 44 s) (L' := L) (fun j hj => sI_j (by omega)) (sI_c (by omega)) rfl)
  exact q
theorem cm_drawnH {B : Bk} {a1 a2 x : Int32} {o d : Nat} {I : MI} {L : ML} (hd : d ≤ 200) (W : WM (B.vl a1.toNatClampNeg) (B.tlOf a2) (wi0.wdd (drB (B.wd a1 a2).v x)) o (drW B a1 a2 x) I L) {b : Bool} {K : Int32 → Bool → MI → ML → Prop} (hK : ∀ I' L', frM I I' → (∀ a, a ≠ 201 → L' a = L a) → K (hdI (drW B a1 a2 x) d) b I' L') : CV m_M_runs [vr 22 186, vi (1 : Int32)] b I L (fun b_5 I_5 L_5 => CI m_M_holdersOf [vr 22 186, vi (nI d), vi (0 : Int32)] b_5 I_5 L_5 (fun v_6 b_6 I_6 L_6 => K v_6 b_6 I_6 L_6)) := by
  refine cm_runs W (Or.inr rfl) (fun N I2 L2 f2 l2 n1 D R hN _ => ?_)
  have hN := hN rfl
  clear R
  have kk := hK I2 L2 f2 l2
  refine cm_holdersOf (u := nI 0) hd (W.frM f2 (l2 186 (by decide))) (D.2.2.2.1 d (by omega)) ?_
  rw [if_pos rfl]
  exact kk
theorem op_drawn : H_drawn := by
  intro a1 a2 a3 a4 a5
  refine Op2.q (fun B => if (inR a4 201 && (inR a5 2 && tkB B a1 a2)) = true then (if a5 = nI 0 then hdI (drW B a1 a2 a3) a4.toNatClampNeg else nI (cleanB (drW B a1 a2 a3)).toNat) else nM) (fun B I b L K ok hc k => ?_) (fun B I b L K ok hm k => ?_)
  · refine v_S_drawn_0 (c_onDay (n := 200) (by decide) (fun g1 => ?_) (fun g1 => ?_))
    · obtain ⟨d, hd, rfl⟩ := (inR_iff (by decide)).mp g1
      cases g5 : inR a5 2 with
      | true =>
        obtain ⟨q, hq, rfl⟩ := (inR_iff (by decide)).mp g5
        simp (disch := first | omega | assumption) only [n_lit, n_gLt, n_gLe, n_gEq, n_gEq2, n_gLe2, n_gLt2, n_m1, n_add, n_mul, n_lt, n_le, n_eq, n_cl, n_in, n_rem, n_mlt, n_mle, n_ltm, n_lem, n_eqm, n_meq, n_bit, n_shl, n_b0, n_b1, n_sub, n_inT, nT, nF, lT, lF, eT, eF, not_false_eq_true, not_true_eq_false, sI_at, sI_c, sI_j, aI_at, aI_c, sL_at, sL_c, sL_j, true_and, and_true, not_true_eq_false, not_false_eq_true, forall_const, true_implies, false_implies, implies_true, if_true, if_false, ite_true, ite_false, Bool.not_eq_true, Bool.not_eq_false, Bool.true_eq_false, Bool.false_eq_true, false_and, and_false, or_true, true_or, false_or, or_false]
        refine c_takeW ok hc (fun g2 I1 L1 f1 W1 l0 => ?_) (fun g2 => ?_)
        · have hv := W1.vil.2
          have l0 : lif B a1 a2 (wi0.wdd (fun _ => false)) I1 L1 := l0
          have kk := fun (I' : MI) (L' : ML) (q : ∀ a, a < 154 ∨ 186 ≤ a → I' a = I1 a) => k b I' L' (fun a ha => (q a (by omega)).trans (f1 a (by omega)))
          rw [g1, g2, g5, n_cl (by omega)] at kk
          simp (disch := first | omega | assumption) only [n_lit, n_gLt, n_gLe, n_gEq, n_gEq2, n_gLe2, n_gLt2, n_m1, n_add, n_mul, n_lt, n_le, n_eq, n_cl, n_in, n_rem, n_mlt, n_mle, n_ltm, n_lem, n_eqm, n_meq, n_bit, n_shl, n_b0, n_b1, n_sub, n_inT, nT, nF, lT, lF, eT, eF, not_false_eq_true, not_true_eq_false, sI_at, sI_c, sI_j, aI_at, aI_c, sL_at, sL_c, sL_j, true_and, and_true, not_true_eq_false, not_false_eq_true, forall_const, true_implies, false_implies, implies_true, if_true, if_false, ite_true, ite_false, Bool.not_eq_true, Bool.not_eq_false, Bool.true_eq_false, Bool.false_eq_true, false_and, and_false, or_true, true_or, false_or, or_false]
          rcases (by omega : q = 0 ∨ q = 1) with rfl | rfl
          · simp (disch := first | omega | assumption) only [n_lit, n_gLt, n_gLe, n_gEq, n_gEq2, n_gLe2, n_gLt2, n_m1, n_add, n_mul, n_lt, n_le, n_eq, n_cl, n_in, n_rem, n_mlt, n_mle, n_ltm, n_lem, n_eqm, n_meq, n_bit, n_shl, n_b0, n_b1, n_sub, n_inT, nT, nF, lT, lF, eT, eF, not_false_eq_true, not_true_eq_false, sI_at, sI_c, sI_j, aI_at, aI_c, sL_at, sL_c, sL_j, true_and, and_true, not_true_eq_false, not_false_eq_true, forall_const, true_implies, false_implies, implies_true, if_true, if_false, ite_true, ite_false, Bool.not_eq_true, Bool.not_eq_false, Bool.true_eq_false, Bool.false_eq_true, false_and, and_false, or_true, true_or, false_or, or_false]
            exact c_drawnHolders ok g2 hv (by omega) l0 (fun I' L' f' _ => kk I' L' f')
          · simp (disch := first | omega | assumption) only [n_lit, n_gLt, n_gLe, n_gEq, n_gEq2, n_gLe2, n_gLt2, n_m1, n_add, n_mul, n_lt, n_le, n_eq, n_cl, n_in, n_rem, n_mlt, n_mle, n_ltm, n_lem, n_eqm, n_meq, n_bit, n_shl, n_b0, n_b1, n_sub, n_inT, nT, nF, lT, lF, eT, eF, not_false_eq_true, not_true_eq_false, sI_at, sI_c, sI_j, aI_at, aI_c, sL_at, sL_c, sL_j, true_and, and_true, not_true_eq_false, not_false_eq_true, forall_const, true_implies, false_implies, implies_true, if_true, if_false, ite_true, ite_false, Bool.not_eq_true, Bool.not_eq_false, Bool.true_eq_false, Bool.false_eq_true, false_and, and_false, or_true, true_or, false_or, or_false]
            refine c_isDrawnClean ok g2 hv l0 (fun I' L' f' _ => ?_)
            have kk := kk I' L' f'
            cases hcl : cleanB (drW B a1 a2 a3) with
            | true =>
              rw [hcl] at kk
              exact ⟨fun z => absurd z (by decide), fun _ => kk⟩
            | false =>
              rw [hcl] at kk
              exact ⟨fun _ => kk, fun z => absurd rfl z⟩
        · have kk := k b I L (fun _ _ => rfl)
          rw [g2, Bool.and_false, Bool.and_false] at kk
          simp (disch := first | omega | assumption) only [n_lit, n_gLt, n_gLe, n_gEq, n_gEq2, n_gLe2, n_gLt2, n_m1, n_add, n_mul, n_lt, n_le, n_eq, n_cl, n_in, n_rem, n_mlt, n_mle, n_ltm, n_lem, n_eqm, n_meq, n_bit, n_shl, n_b0, n_b1, n_sub, n_inT, nT, nF, lT, lF, eT, eF, not_false_eq_true, not_true_eq_false, sI_at, sI_c, sI_j, aI_at, aI_c, sL_at, sL_c, sL_j, true_and, and_true, not_true_eq_false, not_false_eq_true, forall_const, true_implies, false_implies, implies_true, if_true, if_false, ite_true, ite_false, Bool.not_eq_true, Bool.not_eq_false, Bool.true_eq_false, Bool.false_eq_true, false_and, and_false, or_true, true_or, false_or, or_false] at kk
          simp (disch := first | omega | assumption) only [n_lit, n_gLt, n_gLe, n_gEq, n_gEq2, n_gLe2, n_gLt2, n_m1, n_add, n_mul, n_lt, n_le, n_eq, n_cl, n_in, n_rem, n_mlt, n_mle, n_ltm, n_lem, n_eqm, n_meq, n_bit, n_shl, n_b0, n_b1, n_sub, n_inT, nT, nF, lT, lF, eT, eF, not_false_eq_true, not_true_eq_false, sI_at, sI_c, sI_j, aI_at, aI_c, sL_at, sL_c, sL_j, true_and, and_true, not_true_eq_false, not_false_eq_true, forall_const, true_implies, false_implies, implies_true, if_true, if_false, ite_true, ite_false, Bool.not_eq_true, Bool.not_eq_false, Bool.true_eq_false, Bool.false_eq_true, false_and, and_false, or_true, true_or, false_or, or_false]
          exact kk
      | false =>
        have kk := k b I L (fun _ _ => rfl)
        rw [g5, Bool.false_and, Bool.and_false] at kk
        simp (disch := first | omega | assumption) only [n_lit, n_gLt, n_gLe, n_gEq, n_gEq2, n_gLe2, n_gLt2, n_m1, n_add, n_mul, n_lt, n_le, n_eq, n_cl, n_in, n_rem, n_mlt, n_mle, n_ltm, n_lem, n_eqm, n_meq, n_bit, n_shl, n_b0, n_b1, n_sub, n_inT, nT, nF, lT, lF, eT, eF, not_false_eq_true, not_true_eq_false, sI_at, sI_c, sI_j, aI_at, aI_c, sL_at, sL_c, sL_j, true_and, and_true, not_true_eq_false, not_false_eq_true, forall_const, true_implies, false_implies, implies_true, if_true, if_false, ite_true, ite_false, Bool.not_eq_true, Bool.not_eq_false, Bool.true_eq_false, Bool.false_eq_true, false_and, and_false, or_true, true_or, false_or, or_false] at kk
        rcases inR_out (by decide) g5 with q | ⟨j, q1, q2, rfl⟩
        · simp (disch := first | omega | assumption) only [n_lit, n_gLt, n_gLe, n_gEq, n_gEq2, n_gLe2, n_gLt2, n_m1, n_add, n_mul, n_lt, n_le, n_eq, n_cl, n_in, n_rem, n_mlt, n_mle, n_ltm, n_lem, n_eqm, n_meq, n_bit, n_shl, n_b0, n_b1, n_sub, n_inT, nT, nF, lT, lF, eT, eF, not_false_eq_true, not_true_eq_false, sI_at, sI_c, sI_j, aI_at, aI_c, sL_at, sL_c, sL_j, true_and, and_true, not_true_eq_false, not_false_eq_true, forall_const, true_implies, false_implies, implies_true, if_true, if_false, ite_true, ite_false, Bool.not_eq_true, Bool.not_eq_false, Bool.true_eq_false, Bool.false_eq_true, false_and, and_false, or_true, true_or, false_or, or_false]
          exact kk
        · simp (disch := first | omega | assumption) only [n_lit, n_gLt, n_gLe, n_gEq, n_gEq2, n_gLe2, n_gLt2, n_m1, n_add, n_mul, n_lt, n_le, n_eq, n_cl, n_in, n_rem, n_mlt, n_mle, n_ltm, n_lem, n_eqm, n_meq, n_bit, n_shl, n_b0, n_b1, n_sub, n_inT, nT, nF, lT, lF, eT, eF, not_false_eq_true, not_true_eq_false, sI_at, sI_c, sI_j, aI_at, aI_c, sL_at, sL_c, sL_j, true_and, and_true, not_true_eq_false, not_false_eq_true, forall_const, true_implies, false_implies, implies_true, if_true, if_false, ite_true, ite_false, Bool.not_eq_true, Bool.not_eq_false, Bool.true_eq_false, Bool.false_eq_true, false_and, and_false, or_true, true_or, false_or, or_false]
          exact kk
    · have kk := k b I L (fun _ _ => rfl)
      rw [g1, Bool.false_and] at kk
      simp (disch := first | omega | assumption) only [n_lit, n_gLt, n_gLe, n_gEq, n_gEq2, n_gLe2, n_gLt2, n_m1, n_add, n_mul, n_lt, n_le, n_eq, n_cl, n_in, n_rem, n_mlt, n_mle, n_ltm, n_lem, n_eqm, n_meq, n_bit, n_shl, n_b0, n_b1, n_sub, n_inT, nT, nF, lT, lF, eT, eF, not_false_eq_true, not_true_eq_false, sI_at, sI_c, sI_j, aI_at, aI_c, sL_at, sL_c, sL_j, true_and, and_true, not_true_eq_false, not_false_eq_true, forall_const, true_implies, false_implies, implies_true, if_true, if_false, ite_true, ite_false, Bool.not_eq_true, Bool.not_eq_false, Bool.true_eq_false, Bool.false_eq_true, false_and, and_false, or_true, true_or, false_or, or_false] at kk
      simp (disch := first | omega | assumption) only [n_lit, n_gLt, n_gLe, n_gEq, n_gEq2, n_gLe2, n_gLt2, n_m1, n_add, n_mul, n_lt, n_le, n_eq, n_cl, n_in, n_rem, n_mlt, n_mle, n_ltm, n_lem, n_eqm, n_meq, n_bit, n_shl, n_b0, n_b1, n_sub, n_inT, nT, nF, lT, lF, eT, eF, not_false_eq_true, not_true_eq_false, sI_at, sI_c, sI_j, aI_at, aI_c, sL_at, sL_c, sL_j, true_and, and_true, not_true_eq_false, not_false_eq_true, forall_const, true_implies, false_implies, implies_true, if_true, if_false, ite_true, ite_false, Bool.not_eq_true, Bool.not_eq_false, Bool.true_eq_false, Bool.false_eq_true, false_and, and_false, or_true, true_or, false_or, or_false]
      exact kk
  · refine v_M_drawn_2_0 (cm_isIn0 (n := 200) (by decide) (fun g1 => ?_) (fun g1 => ?_))
    · obtain ⟨d, hd, rfl⟩ := (inR_iff (by decide)).mp g1
      simp (disch := first | omega | assumption) only [n_lit, n_gLt, n_gLe, n_gEq, n_gEq2, n_gLe2, n_gLt2, n_m1, n_add, n_mul, n_lt, n_le, n_eq, n_cl, n_in, n_rem, n_mlt, n_mle, n_ltm, n_lem, n_eqm, n_meq, n_bit, n_shl, n_b0, n_b1, n_sub, n_inT, nT, nF, lT, lF, eT, eF, not_false_eq_true, not_true_eq_false, sI_at, sI_c, sI_j, aI_at, aI_c, sL_at, sL_c, sL_j, true_and, and_true, not_true_eq_false, not_false_eq_true, forall_const, true_implies, false_implies, implies_true, if_true, if_false, ite_true, ite_false, Bool.not_eq_true, Bool.not_eq_false, Bool.true_eq_false, Bool.false_eq_true, false_and, and_false, or_true, true_or, false_or, or_false]
      refine cm_isIn0 (n := 1) (by decide) (fun g5 => ?_) (fun g5 => ?_)
      · obtain ⟨q, hq, rfl⟩ := (inR_iff (by decide)).mp g5
        simp (disch := first | omega | assumption) only [n_lit, n_gLt, n_gLe, n_gEq, n_gEq2, n_gLe2, n_gLt2, n_m1, n_add, n_mul, n_lt, n_le, n_eq, n_cl, n_in, n_rem, n_mlt, n_mle, n_ltm, n_lem, n_eqm, n_meq, n_bit, n_shl, n_b0, n_b1, n_sub, n_inT, nT, nF, lT, lF, eT, eF, not_false_eq_true, not_true_eq_false, sI_at, sI_c, sI_j, aI_at, aI_c, sL_at, sL_c, sL_j, true_and, and_true, not_true_eq_false, not_false_eq_true, forall_const, true_implies, false_implies, implies_true, if_true, if_false, ite_true, ite_false, Bool.not_eq_true, Bool.not_eq_false, Bool.true_eq_false, Bool.false_eq_true, false_and, and_false, or_true, true_or, false_or, or_false]
        refine cm_bothW ok hm (fun g2 I1 L1 o f1 W1 => ?_) (fun g2 I1 f1 => ?_)
        · have kk := fun (I' : MI) (L' : ML) (q : ∀ a, a < 186 ∨ a = 187 ∨ a = 188 ∨ a = 189 ∨ 202 ≤ a → I' a = I1 a) => k b I' L' (fun a ha => (q a (by omega)).trans (f1 a (by omega)))
          rw [g1, g2, g5, n_cl (by omega)] at kk
          simp (disch := first | omega | assumption) only [n_lit, n_gLt, n_gLe, n_gEq, n_gEq2, n_gLe2, n_gLt2, n_m1, n_add, n_mul, n_lt, n_le, n_eq, n_cl, n_in, n_rem, n_mlt, n_mle, n_ltm, n_lem, n_eqm, n_meq, n_bit, n_shl, n_b0, n_b1, n_sub, n_inT, nT, nF, lT, lF, eT, eF, not_false_eq_true, not_true_eq_false, sI_at, sI_c, sI_j, aI_at, aI_c, sL_at, sL_c, sL_j, true_and, and_true, not_true_eq_false, not_false_eq_true, forall_const, true_implies, false_implies, implies_true, if_true, if_false, ite_true, ite_false, Bool.not_eq_true, Bool.not_eq_false, Bool.true_eq_false, Bool.false_eq_true, false_and, and_false, or_true, true_or, false_or, or_false]
          refine cm_world W1 (fun I2 L2 f2 _ W2 => ?_)
          rcases (by omega : q = 0 ∨ q = 1) with rfl | rfl
          · simp (disch := first | omega | assumption) only [n_lit, n_gLt, n_gLe, n_gEq, n_gEq2, n_gLe2, n_gLt2, n_m1, n_add, n_mul, n_lt, n_le, n_eq, n_cl, n_in, n_rem, n_mlt, n_mle, n_ltm, n_lem, n_eqm, n_meq, n_bit, n_shl, n_b0, n_b1, n_sub, n_inT, nT, nF, lT, lF, eT, eF, not_false_eq_true, not_true_eq_false, sI_at, sI_c, sI_j, aI_at, aI_c, sL_at, sL_c, sL_j, true_and, and_true, not_true_eq_false, not_false_eq_true, forall_const, true_implies, false_implies, implies_true, if_true, if_false, ite_true, ite_false, Bool.not_eq_true, Bool.not_eq_false, Bool.true_eq_false, Bool.false_eq_true, false_and, and_false, or_true, true_or, false_or, or_false]
            exact cm_drawnH (B := B) (a1 := a1) (a2 := a2) (x := a3) (by omega) W2 (fun I3 L3 f3 _ => kk I3 L3 (fun a ha => (f3.1 a ha).trans (f2 a (by omega))))
          · simp (disch := first | omega | assumption) only [n_lit, n_gLt, n_gLe, n_gEq, n_gEq2, n_gLe2, n_gLt2, n_m1, n_add, n_mul, n_lt, n_le, n_eq, n_cl, n_in, n_rem, n_mlt, n_mle, n_ltm, n_lem, n_eqm, n_meq, n_bit, n_shl, n_b0, n_b1, n_sub, n_inT, nT, nF, lT, lF, eT, eF, not_false_eq_true, not_true_eq_false, sI_at, sI_c, sI_j, aI_at, aI_c, sL_at, sL_c, sL_j, true_and, and_true, not_true_eq_false, not_false_eq_true, forall_const, true_implies, false_implies, implies_true, if_true, if_false, ite_true, ite_false, Bool.not_eq_true, Bool.not_eq_false, Bool.true_eq_false, Bool.false_eq_true, false_and, and_false, or_true, true_or, false_or, or_false]
            refine cm_isClean (w := drW B a1 a2 a3) W2 (fun I3 L3 f3 _ => ?_)
            have kk := kk I3 L3 (fun a ha => (f3.1 a ha).trans (f2 a (by omega)))
            cases hcl : cleanB (drW B a1 a2 a3) with
            | true =>
              rw [hcl] at kk
              exact ⟨fun z => absurd z (by decide), fun _ => kk⟩
            | false =>
              rw [hcl] at kk
              exact ⟨fun _ => kk, fun z => absurd rfl z⟩
        · have kk := k b I1 L (fun a ha => f1 a (by omega))
          rw [g2, Bool.and_false, Bool.and_false] at kk
          simp (disch := first | omega | assumption) only [n_lit, n_gLt, n_gLe, n_gEq, n_gEq2, n_gLe2, n_gLt2, n_m1, n_add, n_mul, n_lt, n_le, n_eq, n_cl, n_in, n_rem, n_mlt, n_mle, n_ltm, n_lem, n_eqm, n_meq, n_bit, n_shl, n_b0, n_b1, n_sub, n_inT, nT, nF, lT, lF, eT, eF, not_false_eq_true, not_true_eq_false, sI_at, sI_c, sI_j, aI_at, aI_c, sL_at, sL_c, sL_j, true_and, and_true, not_true_eq_false, not_false_eq_true, forall_const, true_implies, false_implies, implies_true, if_true, if_false, ite_true, ite_false, Bool.not_eq_true, Bool.not_eq_false, Bool.true_eq_false, Bool.false_eq_true, false_and, and_false, or_true, true_or, false_or, or_false] at kk
          simp (disch := first | omega | assumption) only [n_lit, n_gLt, n_gLe, n_gEq, n_gEq2, n_gLe2, n_gLt2, n_m1, n_add, n_mul, n_lt, n_le, n_eq, n_cl, n_in, n_rem, n_mlt, n_mle, n_ltm, n_lem, n_eqm, n_meq, n_bit, n_shl, n_b0, n_b1, n_sub, n_inT, nT, nF, lT, lF, eT, eF, not_false_eq_true, not_true_eq_false, sI_at, sI_c, sI_j, aI_at, aI_c, sL_at, sL_c, sL_j, true_and, and_true, not_true_eq_false, not_false_eq_true, forall_const, true_implies, false_implies, implies_true, if_true, if_false, ite_true, ite_false, Bool.not_eq_true, Bool.not_eq_false, Bool.true_eq_false, Bool.false_eq_true, false_and, and_false, or_true, true_or, false_or, or_false]
          exact kk
      · have kk := k b I L (fun _ _ => rfl)
        rw [g5, Bool.false_and, Bool.and_false] at kk
        simp (disch := first | omega | assumption) only [n_lit, n_gLt, n_gLe, n_gEq, n_gEq2, n_gLe2, n_gLt2, n_m1, n_add, n_mul, n_lt, n_le, n_eq, n_cl, n_in, n_rem, n_mlt, n_mle, n_ltm, n_lem, n_eqm, n_meq, n_bit, n_shl, n_b0, n_b1, n_sub, n_inT, nT, nF, lT, lF, eT, eF, not_false_eq_true, not_true_eq_false, sI_at, sI_c, sI_j, aI_at, aI_c, sL_at, sL_c, sL_j, true_and, and_true, not_true_eq_false, not_false_eq_true, forall_const, true_implies, false_implies, implies_true, if_true, if_false, ite_true, ite_false, Bool.not_eq_true, Bool.not_eq_false, Bool.true_eq_false, Bool.false_eq_true, false_and, and_false, or_true, true_or, false_or, or_false] at kk
        simp (disch := first | omega | assumption) only [n_lit, n_gLt, n_gLe, n_gEq, n_gEq2, n_gLe2, n_gLt2, n_m1, n_add, n_mul, n_lt, n_le, n_eq, n_cl, n_in, n_rem, n_mlt, n_mle, n_ltm, n_lem, n_eqm, n_meq, n_bit, n_shl, n_b0, n_b1, n_sub, n_inT, nT, nF, lT, lF, eT, eF, not_false_eq_true, not_true_eq_false, sI_at, sI_c, sI_j, aI_at, aI_c, sL_at, sL_c, sL_j, true_and, and_true, not_true_eq_false, not_false_eq_true, forall_const, true_implies, false_implies, implies_true, if_true, if_false, ite_true, ite_false, Bool.not_eq_true, Bool.not_eq_false, Bool.true_eq_false, Bool.false_eq_true, false_and, and_false, or_true, true_or, false_or, or_false]
        exact kk
    · have kk := k b I L (fun _ _ => rfl)
      rw [g1, Bool.false_and] at kk
      simp (disch := first | omega | assumption) only [n_lit, n_gLt, n_gLe, n_gEq, n_gEq2, n_gLe2, n_gLt2, n_m1, n_add, n_mul, n_lt, n_le, n_eq, n_cl, n_in, n_rem, n_mlt, n_mle, n_ltm, n_lem, n_eqm, n_meq, n_bit, n_shl, n_b0, n_b1, n_sub, n_inT, nT, nF, lT, lF, eT, eF, not_false_eq_true, not_true_eq_false, sI_at, sI_c, sI_j, aI_at, aI_c, sL_at, sL_c, sL_j, true_and, and_true, not_true_eq_false, not_false_eq_true, forall_const, true_implies, false_implies, implies_true, if_true, if_false, ite_true, ite_false, Bool.not_eq_true, Bool.not_eq_false, Bool.true_eq_false, Bool.false_eq_true, false_and, and_false, or_true, true_or, false_or, or_false] at kk
      simp (disch := first | omega | assumption) only [n_lit, n_gLt, n_gLe, n_gEq, n_gEq2, n_gLe2, n_gLt2, n_m1, n_add, n_mul, n_lt, n_le, n_eq, n_cl, n_in, n_rem, n_mlt, n_mle, n_ltm, n_lem, n_eqm, n_meq, n_bit, n_shl, n_b0, n_b1, n_sub, n_inT, nT, nF, lT, lF, eT, eF, not_false_eq_true, not_true_eq_false, sI_at, sI_c, sI_j, aI_at, aI_c, sL_at, sL_c, sL_j, true_and, and_true, not_true_eq_false, not_false_eq_true, forall_const, true_implies, false_implies, implies_true, if_true, if_false, ite_true, ite_false, Bool.not_eq_true, Bool.not_eq_false, Bool.true_eq_false, Bool.false_eq_true, false_and, and_false, or_true, true_or, false_or, or_false]
      exact kk
