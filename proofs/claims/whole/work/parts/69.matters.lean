/-! WHAT-IFS: matters -/
theorem cm_endOf {v : Vil} {t : Tel} {x : Wi} {o : Nat} {w : Wd} {I : MI} {L : ML} (W : WM v t x o w I L) {b : Bool} {K : Int32 → Bool → MI → ML → Prop} (hK : ∀ I' L', frM I I' → (∀ a, a ≠ 201 → L' a = L a) → K (nI (endN w)) b I' L') : CI m_M_endOf [vr 22 186] b I L K := by
  have hn := W.1.2.1.1.2
  refine v_M_endOf_0 ?_
  simp (disch := first | omega | assumption) only [n_lit, n_gLt, n_gLe, n_gEq, n_gEq2, n_gLe2, n_gLt2, n_m1, n_add, n_mul, n_lt, n_le, n_eq, n_cl, n_in, n_rem, n_mlt, n_mle, n_ltm, n_lem, n_eqm, n_meq, n_bit, n_shl, n_b0, n_b1, n_sub, n_inT, nT, nF, lT, lF, eT, eF, not_false_eq_true, not_true_eq_false, sI_at, sI_c, sI_j, aI_at, aI_c, sL_at, sL_c, sL_j, true_and, and_true, not_true_eq_false, not_false_eq_true, forall_const, true_implies, false_implies, implies_true, if_true, if_false, ite_true, ite_false, Bool.not_eq_true, Bool.not_eq_false, Bool.true_eq_false, Bool.false_eq_true, false_and, and_false, or_true, true_or, false_or, or_false]
  refine cm_runs W (Or.inl rfl) (fun N I1 L1 f1 l1 n1 D R _ hs => ?_)
  obtain ⟨s1, s2⟩ := hs rfl
  have r1 := (rgM_d R).1
  have kk := hK I1 L1 f1 l1
  have W1 : WM v t x o w I1 L1 := W.frM f1 (l1 186 (by decide))
  unfold endN at kk
  rw [rgU_stop n1 s1] at kk
  cases e : rgU w N with
  | none =>
    have := s1 e
    rw [e] at r1 kk
    have r1 : I1 186 39 = nM := r1
    have kk : K (nI (hdN w 200)) b I1 L1 := kk
    simp (disch := first | omega | assumption) only [n_lit, n_gLt, n_gLe, n_gEq, n_gEq2, n_gLe2, n_gLt2, n_m1, n_add, n_mul, n_lt, n_le, n_eq, n_cl, n_in, n_rem, n_mlt, n_mle, n_ltm, n_lem, n_eqm, n_meq, n_bit, n_shl, n_b0, n_b1, n_sub, n_inT, nT, nF, lT, lF, eT, eF, not_false_eq_true, not_true_eq_false, sI_at, sI_c, sI_j, aI_at, aI_c, sL_at, sL_c, sL_j, true_and, and_true, not_true_eq_false, not_false_eq_true, forall_const, true_implies, false_implies, implies_true, if_true, if_false, ite_true, ite_false, Bool.not_eq_true, Bool.not_eq_false, Bool.true_eq_false, Bool.false_eq_true, false_and, and_false, or_true, true_or, false_or, or_false, r1]
    refine cm_holdersOf (u := nI 0) (by omega) W1 (D.2.2.2.1 200 (by omega)) ?_
    rw [if_pos rfl]
    exact cm_bitsI hn kk
  | some r =>
    have hr := s2 r e
    have hr2 := rgU_in e
    rw [e] at r1 kk
    have r1 : I1 186 39 = nI r.1 := r1
    have kk : K (nI (hdN w r.1)) b I1 L1 := kk
    simp (disch := first | omega | assumption) only [n_lit, n_gLt, n_gLe, n_gEq, n_gEq2, n_gLe2, n_gLt2, n_m1, n_add, n_mul, n_lt, n_le, n_eq, n_cl, n_in, n_rem, n_mlt, n_mle, n_ltm, n_lem, n_eqm, n_meq, n_bit, n_shl, n_b0, n_b1, n_sub, n_inT, nT, nF, lT, lF, eT, eF, not_false_eq_true, not_true_eq_false, sI_at, sI_c, sI_j, aI_at, aI_c, sL_at, sL_c, sL_j, true_and, and_true, not_true_eq_false, not_false_eq_true, forall_const, true_implies, false_implies, implies_true, if_true, if_false, ite_true, ite_false, Bool.not_eq_true, Bool.not_eq_false, Bool.true_eq_false, Bool.false_eq_true, false_and, and_false, or_true, true_or, false_or, or_false, r1]
    refine cm_holdersOf (u := nI 0) (by omega) W1 (D.2.2.2.1 r.1 (by omega)) ?_
    rw [if_pos rfl]
    exact cm_bitsI hn kk
theorem WM_si {v : Vil} {t : Tel} {f g : Nat → Bool} {o : Nat} {w : Wd} {I : MI} {L : ML} {m : Int32} (hm : ∀ p, p < 32 → bt m p = g p) (h : WM v t (siX f) o w I L) : WM v t (siX g) o (mkW w.v v.m t (siX g)) (sI I 186 16 m) L := by
  obtain ⟨⟨a1, a2, a3, a4, a5⟩, ⟨b1, b2, b3⟩, c1, d1, e1⟩ := h
  have e7 : sI I 186 16 m 187 = I 187 := sI_c (by omega)
  refine ⟨⟨rfl, a2, a3, a4, siX_ok g⟩, ⟨b1, by rw [sI_j (by omega)]; exact b2, vilM_fr e7 b3⟩, ?_, ?_, ?_⟩
  · unfold rtP telM at c1 ⊢
    rw [e7, sI_j (by omega)]
    exact c1
  · unfold rxP at d1 ⊢
    obtain ⟨z1, z2, z3, z4, z5, z6, z7, z8⟩ := d1
    refine ⟨?_, ?_, ?_, ?_, ?_, z6, z7, ?_⟩
    · rw [sI_j (by omega)]
      exact z1
    · rw [sI_j (by omega)]
      exact z2
    · rw [sI_j (by omega)]
      exact z3
    · rw [sI_j (by omega), sI_j (by omega)]
      exact z4
    · rw [sI_at]
      exact hm
    · rw [sI_j (by omega)]
      exact z8
  · unfold vmod at e1 ⊢
    rw [sI_j (by omega), sI_j (by omega), sI_j (by omega), sI_j (by omega), sI_j (by omega)]
    exact e1
theorem WM_wx {B : Bk} {a1 a2 : Int32} {x y z : Wi} {o : Nat} {I : MI} {L : ML} (h : WM (B.vl a1.toNatClampNeg) (B.tlOf a2) x o (mkW (B.wx a1 a2 y).v (B.vl a1.toNatClampNeg).m (B.tlOf a2) z) I L) : WM (B.vl a1.toNatClampNeg) (B.tlOf a2) x o (B.wx a1 a2 z) I L := h
theorem cm_mattersOf {v : Vil} {t : Tel} {f : Nat → Bool} {o p : Nat} {w : Wd} {I : MI} {L : ML} (W : WM v t (siX f) o w I L) (hp : p < w.v.n) {b : Bool} {K : Int32 → Bool → MI → ML → Prop} (hK : ∀ I' L', (∀ a, a < 186 ∨ a = 187 ∨ a = 188 ∨ a = 189 ∨ 202 ≤ a → I' a = I a) → (∀ j, j ≠ 16 → j ≠ 39 → j ≠ 40 → I' 186 j = I 186 j) → (∀ a, a ≠ 201 → L' a = L a) → WM v t (siX (fun q => decide (q = p))) o (mkW w.v v.m t (siX (fun q => decide (q = p)))) I' L' → K (nI (endN (mkW w.v v.m t (siX (fun _ => false)))) - nI (endN (mkW w.v v.m t (siX (fun q => decide (q = p)))))) b I' L') : CI m_M_mattersOf [vr 22 186, vi (nI p)] b I L K := by
  have hn := W.1.2.1.1.2
  refine v_M_mattersOf_0 ?_
  have W0 := WM_si (g := fun _ => false) (m := nI 0) (fun p _ => b_0 p) W
  refine cm_endOf W0 (fun I1 L1 f1 l1 => ?_)
  have W1 := W0.frM f1 (l1 186 (by decide))
  have W2 := WM_si (g := fun q => decide (q = p)) (m := nI (2 ^ p)) (fun q hq => by
    rw [b_2p hq]
    exact decide_eq_decide.mpr ⟨fun z => z.symm, fun z => z.symm⟩) W1
  simp (disch := first | omega | assumption) only [n_lit, n_gLt, n_gLe, n_gEq, n_gEq2, n_gLe2, n_gLt2, n_m1, n_add, n_mul, n_lt, n_le, n_eq, n_cl, n_in, n_rem, n_mlt, n_mle, n_ltm, n_lem, n_eqm, n_meq, n_bit, n_shl, n_b0, n_b1, n_sub, n_inT, nT, nF, lT, lF, eT, eF, not_false_eq_true, not_true_eq_false, sI_at, sI_c, sI_j, aI_at, aI_c, sL_at, sL_c, sL_j, true_and, and_true, not_true_eq_false, not_false_eq_true, forall_const, true_implies, false_implies, implies_true, if_true, if_false, ite_true, ite_false, Bool.not_eq_true, Bool.not_eq_false, Bool.true_eq_false, Bool.false_eq_true, false_and, and_false, or_true, true_or, false_or, or_false]
  refine cm_endOf W2 (fun I3 L3 f3 l3 => ?_)
  have W3 := W2.frM f3 (l3 186 (by decide))
  refine hK I3 L3 (fun a ha => ?_) (fun j h1 h2 h3 => ?_) (fun a ha => by rw [l3 a ha, l1 a ha]) W3
  · rw [f3.1 a ha, sI_c (by omega), f1.1 a ha, sI_c (by omega)]
  · rw [f3.2 j h2 h3, sI_j h1, f1.2 j h2 h3, sI_j h1]
theorem op_matters : H_matters := by
  intro a1 a2 a3
  refine Op2.q (fun B => if (hpB B a1 a3 && tkB B a1 a2) = true then nI (endN (B.wx a1 a2 (siX (fun _ => false)))) - nI (endN (B.wx a1 a2 (siX (fun q => decide (q = a3.toNatClampNeg))))) else -nI 1000) (fun B I b L K ok hc k => ?_) (fun B I b L K ok hm k => ?_)
  · refine v_S_matters_0 (c_hasPerson ok hc (fun g3 => ?_) (fun g3 => ?_))
    · simp (disch := first | omega | assumption) only [n_lit, n_gLt, n_gLe, n_gEq, n_gEq2, n_gLe2, n_gLt2, n_m1, n_add, n_mul, n_lt, n_le, n_eq, n_cl, n_in, n_rem, n_mlt, n_mle, n_ltm, n_lem, n_eqm, n_meq, n_bit, n_shl, n_b0, n_b1, n_sub, n_inT, nT, nF, lT, lF, eT, eF, not_false_eq_true, not_true_eq_false, sI_at, sI_c, sI_j, aI_at, aI_c, sL_at, sL_c, sL_j, true_and, and_true, not_true_eq_false, not_false_eq_true, forall_const, true_implies, false_implies, implies_true, if_true, if_false, ite_true, ite_false, Bool.not_eq_true, Bool.not_eq_false, Bool.true_eq_false, Bool.false_eq_true, false_and, and_false, or_true, true_or, false_or, or_false]
      refine c_takeW ok hc (fun g2 I1 L1 f1 W1 l0 => ?_) (fun g2 => ?_)
      · have hn := W1.vil.2.1.2
        have g4 := hp_tk (a3 := a3) ok g2
        rw [g3] at g4
        obtain ⟨p, hp, rfl⟩ := (inR_iff (by omega)).mp g4.symm
        have l0 : lif B a1 a2 (siX (fun _ => false)) I1 L1 := l0
        simp (disch := first | omega | assumption) only [n_lit, n_gLt, n_gLe, n_gEq, n_gEq2, n_gLe2, n_gLt2, n_m1, n_add, n_mul, n_lt, n_le, n_eq, n_cl, n_in, n_rem, n_mlt, n_mle, n_ltm, n_lem, n_eqm, n_meq, n_bit, n_shl, n_b0, n_b1, n_sub, n_inT, nT, nF, lT, lF, eT, eF, not_false_eq_true, not_true_eq_false, sI_at, sI_c, sI_j, aI_at, aI_c, sL_at, sL_c, sL_j, true_and, and_true, not_true_eq_false, not_false_eq_true, forall_const, true_implies, false_implies, implies_true, if_true, if_false, ite_true, ite_false, Bool.not_eq_true, Bool.not_eq_false, Bool.true_eq_false, Bool.false_eq_true, false_and, and_false, or_true, true_or, false_or, or_false]
        refine v_Search_weightOf_0 (c_endHolders (lif_W ok g2 (siX_ok _) l0) (fun I2 L2 f2 l2 => v_Given_silence_0 ?_))
        have l1 := lif_fr (I' := I2) (L' := L2) (fun a q1 q2 => f2 a (by omega)) (fun a ha => l2 a (by omega) (by omega) (by omega)) l0
        have l3 := lif_si (g := fun q => decide (q = p)) (m := nI (2 ^ p)) (fun q hq => by
          rw [b_2p hq]
          exact decide_eq_decide.mpr ⟨fun z => z.symm, fun z => z.symm⟩) l1
        simp (disch := first | omega | assumption) only [n_lit, n_gLt, n_gLe, n_gEq, n_gEq2, n_gLe2, n_gLt2, n_m1, n_add, n_mul, n_lt, n_le, n_eq, n_cl, n_in, n_rem, n_mlt, n_mle, n_ltm, n_lem, n_eqm, n_meq, n_bit, n_shl, n_b0, n_b1, n_sub, n_inT, nT, nF, lT, lF, eT, eF, not_false_eq_true, not_true_eq_false, sI_at, sI_c, sI_j, aI_at, aI_c, sL_at, sL_c, sL_j, true_and, and_true, not_true_eq_false, not_false_eq_true, forall_const, true_implies, false_implies, implies_true, if_true, if_false, ite_true, ite_false, Bool.not_eq_true, Bool.not_eq_false, Bool.true_eq_false, Bool.false_eq_true, false_and, and_false, or_true, true_or, false_or, or_false]
        refine c_endHolders (lif_W ok g2 (siX_ok _) l3) (fun I4 L4 f4 l4 => ?_)
        have kk := k b I4 L4 (fun a ha => by rw [f4 a (by omega), sI_c (by omega), f2 a (by omega), f1 a (by omega)])
        rw [g2, g3, n_cl (by omega)] at kk
        exact kk
      · have kk := k b I L (fun _ _ => rfl)
        rw [g2, Bool.and_false] at kk
        simp (disch := first | omega | assumption) only [n_lit, n_gLt, n_gLe, n_gEq, n_gEq2, n_gLe2, n_gLt2, n_m1, n_add, n_mul, n_lt, n_le, n_eq, n_cl, n_in, n_rem, n_mlt, n_mle, n_ltm, n_lem, n_eqm, n_meq, n_bit, n_shl, n_b0, n_b1, n_sub, n_inT, nT, nF, lT, lF, eT, eF, not_false_eq_true, not_true_eq_false, sI_at, sI_c, sI_j, aI_at, aI_c, sL_at, sL_c, sL_j, true_and, and_true, not_true_eq_false, not_false_eq_true, forall_const, true_implies, false_implies, implies_true, if_true, if_false, ite_true, ite_false, Bool.not_eq_true, Bool.not_eq_false, Bool.true_eq_false, Bool.false_eq_true, false_and, and_false, or_true, true_or, false_or, or_false] at kk
        simp (disch := first | omega | assumption) only [n_lit, n_gLt, n_gLe, n_gEq, n_gEq2, n_gLe2, n_gLt2, n_m1, n_add, n_mul, n_lt, n_le, n_eq, n_cl, n_in, n_rem, n_mlt, n_mle, n_ltm, n_lem, n_eqm, n_meq, n_bit, n_shl, n_b0, n_b1, n_sub, n_inT, nT, nF, lT, lF, eT, eF, not_false_eq_true, not_true_eq_false, sI_at, sI_c, sI_j, aI_at, aI_c, sL_at, sL_c, sL_j, true_and, and_true, not_true_eq_false, not_false_eq_true, forall_const, true_implies, false_implies, implies_true, if_true, if_false, ite_true, ite_false, Bool.not_eq_true, Bool.not_eq_false, Bool.true_eq_false, Bool.false_eq_true, false_and, and_false, or_true, true_or, false_or, or_false]
        exact kk
    · have kk := k b I L (fun _ _ => rfl)
      rw [g3, Bool.false_and] at kk
      simp (disch := first | omega | assumption) only [n_lit, n_gLt, n_gLe, n_gEq, n_gEq2, n_gLe2, n_gLt2, n_m1, n_add, n_mul, n_lt, n_le, n_eq, n_cl, n_in, n_rem, n_mlt, n_mle, n_ltm, n_lem, n_eqm, n_meq, n_bit, n_shl, n_b0, n_b1, n_sub, n_inT, nT, nF, lT, lF, eT, eF, not_false_eq_true, not_true_eq_false, sI_at, sI_c, sI_j, aI_at, aI_c, sL_at, sL_c, sL_j, true_and, and_true, not_true_eq_false, not_false_eq_true, forall_const, true_implies, false_implies, implies_true, if_true, if_false, ite_true, ite_false, Bool.not_eq_true, Bool.not_eq_false, Bool.true_eq_false, Bool.false_eq_true, false_and, and_false, or_true, true_or, false_or, or_false] at kk
      simp (disch := first | omega | assumption) only [n_lit, n_gLt, n_gLe, n_gEq, n_gEq2, n_gLe2, n_gLt2, n_m1, n_add, n_mul, n_lt, n_le, n_eq, n_cl, n_in, n_rem, n_mlt, n_mle, n_ltm, n_lem, n_eqm, n_meq, n_bit, n_shl, n_b0, n_b1, n_sub, n_inT, nT, nF, lT, lF, eT, eF, not_false_eq_true, not_true_eq_false, sI_at, sI_c, sI_j, aI_at, aI_c, sL_at, sL_c, sL_j, true_and, and_true, not_true_eq_false, not_false_eq_true, forall_const, true_implies, false_implies, implies_true, if_true, if_false, ite_true, ite_false, Bool.not_eq_true, Bool.not_eq_false, Bool.true_eq_false, Bool.false_eq_true, false_and, and_false, or_true, true_or, false_or, or_false]
      exact kk
  · refine v_M_matters_0 (cm_bothW ok hm (fun g2 I1 L1 o f1 W1 => ?_) (fun g2 I1 f1 => ?_))
    · have hn := W1.1.2.1.1.2
      simp (disch := first | omega | assumption) only [n_lit, n_gLt, n_gLe, n_gEq, n_gEq2, n_gLe2, n_gLt2, n_m1, n_add, n_mul, n_lt, n_le, n_eq, n_cl, n_in, n_rem, n_mlt, n_mle, n_ltm, n_lem, n_eqm, n_meq, n_bit, n_shl, n_b0, n_b1, n_sub, n_inT, nT, nF, lT, lF, eT, eF, not_false_eq_true, not_true_eq_false, sI_at, sI_c, sI_j, aI_at, aI_c, sL_at, sL_c, sL_j, true_and, and_true, not_true_eq_false, not_false_eq_true, forall_const, true_implies, false_implies, implies_true, if_true, if_false, ite_true, ite_false, Bool.not_eq_true, Bool.not_eq_false, Bool.true_eq_false, Bool.false_eq_true, false_and, and_false, or_true, true_or, false_or, or_false]
      refine cm_isPerson W1 (fun g4 => ?_) (fun g4 => ?_)
      · have g3 := (hp_tk (a3 := a3) ok g2).trans g4
        obtain ⟨p, hp, rfl⟩ := (inR_iff (by omega)).mp g4
        have W0 : WM (B.vl a1.toNatClampNeg) (B.tlOf a2) (siX (fun _ => false)) o (B.wd a1 a2) I1 L1 := W1
        simp (disch := first | omega | assumption) only [n_lit, n_gLt, n_gLe, n_gEq, n_gEq2, n_gLe2, n_gLt2, n_m1, n_add, n_mul, n_lt, n_le, n_eq, n_cl, n_in, n_rem, n_mlt, n_mle, n_ltm, n_lem, n_eqm, n_meq, n_bit, n_shl, n_b0, n_b1, n_sub, n_inT, nT, nF, lT, lF, eT, eF, not_false_eq_true, not_true_eq_false, sI_at, sI_c, sI_j, aI_at, aI_c, sL_at, sL_c, sL_j, true_and, and_true, not_true_eq_false, not_false_eq_true, forall_const, true_implies, false_implies, implies_true, if_true, if_false, ite_true, ite_false, Bool.not_eq_true, Bool.not_eq_false, Bool.true_eq_false, Bool.false_eq_true, false_and, and_false, or_true, true_or, false_or, or_false]
        refine cm_mattersOf W0 hp (fun I2 L2 f2 _ _ _ => ?_)
        have kk := k b I2 L2 (fun a ha => (f2 a (by omega)).trans (f1 a (by omega)))
        rw [g2, g3, n_cl (by omega)] at kk
        exact kk
      · have g3 := (hp_tk (a3 := a3) ok g2).trans g4
        have kk := k b I1 L1 (fun a ha => f1 a (by omega))
        rw [g3, Bool.false_and] at kk
        simp (disch := first | omega | assumption) only [n_lit, n_gLt, n_gLe, n_gEq, n_gEq2, n_gLe2, n_gLt2, n_m1, n_add, n_mul, n_lt, n_le, n_eq, n_cl, n_in, n_rem, n_mlt, n_mle, n_ltm, n_lem, n_eqm, n_meq, n_bit, n_shl, n_b0, n_b1, n_sub, n_inT, nT, nF, lT, lF, eT, eF, not_false_eq_true, not_true_eq_false, sI_at, sI_c, sI_j, aI_at, aI_c, sL_at, sL_c, sL_j, true_and, and_true, not_true_eq_false, not_false_eq_true, forall_const, true_implies, false_implies, implies_true, if_true, if_false, ite_true, ite_false, Bool.not_eq_true, Bool.not_eq_false, Bool.true_eq_false, Bool.false_eq_true, false_and, and_false, or_true, true_or, false_or, or_false] at kk
        simp (disch := first | omega | assumption) only [n_lit, n_gLt, n_gLe, n_gEq, n_gEq2, n_gLe2, n_gLt2, n_m1, n_add, n_mul, n_lt, n_le, n_eq, n_cl, n_in, n_rem, n_mlt, n_mle, n_ltm, n_lem, n_eqm, n_meq, n_bit, n_shl, n_b0, n_b1, n_sub, n_inT, nT, nF, lT, lF, eT, eF, not_false_eq_true, not_true_eq_false, sI_at, sI_c, sI_j, aI_at, aI_c, sL_at, sL_c, sL_j, true_and, and_true, not_true_eq_false, not_false_eq_true, forall_const, true_implies, false_implies, implies_true, if_true, if_false, ite_true, ite_false, Bool.not_eq_true, Bool.not_eq_false, Bool.true_eq_false, Bool.false_eq_true, false_and, and_false, or_true, true_or, false_or, or_false]
        exact kk
    · have kk := k b I1 L (fun a ha => f1 a (by omega))
      rw [g2, Bool.and_false] at kk
      simp (disch := first | omega | assumption) only [n_lit, n_gLt, n_gLe, n_gEq, n_gEq2, n_gLe2, n_gLt2, n_m1, n_add, n_mul, n_lt, n_le, n_eq, n_cl, n_in, n_rem, n_mlt, n_mle, n_ltm, n_lem, n_eqm, n_meq, n_bit, n_shl, n_b0, n_b1, n_sub, n_inT, nT, nF, lT, lF, eT, eF, not_false_eq_true, not_true_eq_false, sI_at, sI_c, sI_j, aI_at, aI_c, sL_at, sL_c, sL_j, true_and, and_true, not_true_eq_false, not_false_eq_true, forall_const, true_implies, false_implies, implies_true, if_true, if_false, ite_true, ite_false, Bool.not_eq_true, Bool.not_eq_false, Bool.true_eq_false, Bool.false_eq_true, false_and, and_false, or_true, true_or, false_or, or_false] at kk
      simp (disch := first | omega | assumption) only [n_lit, n_gLt, n_gLe, n_gEq, n_gEq2, n_gLe2, n_gLt2, n_m1, n_add, n_mul, n_lt, n_le, n_eq, n_cl, n_in, n_rem, n_mlt, n_mle, n_ltm, n_lem, n_eqm, n_meq, n_bit, n_shl, n_b0, n_b1, n_sub, n_inT, nT, nF, lT, lF, eT, eF, not_false_eq_true, not_true_eq_false, sI_at, sI_c, sI_j, aI_at, aI_c, sL_at, sL_c, sL_j, true_and, and_true, not_true_eq_false, not_false_eq_true, forall_const, true_implies, false_implies, implies_true, if_true, if_false, ite_true, ite_false, Bool.not_eq_true, Bool.not_eq_false, Bool.true_eq_false, Bool.false_eq_true, false_and, and_false, or_true, true_or, false_or, or_false]
      exact kk
