/-! THE LAW -/
section LW
variable {V : Vil} {T : List Act} {B : Bk} {nn bc bs : Nat} {x3 : Int32} {K : Int32 → Bool → Nat → MI → ML → Prop}
theorem lw_begun {b : Bool} {I : MI} {L : ML} (h : LB V T B I) (hV : Vok V) (hT : T.length ≤ 4) (hA : ∀ q, q ∈ T → Aok q) (hnv : 1 ≤ B.nv) (hnt : 1 ≤ B.nt) (hnn : 189 ≤ nn ∧ nn < 998) (hbc : 3 ≤ bc) (hbs : 51 ≤ bs) (hK : ∀ b' n' I' L', K (nI 1) b' n' I' L') : NW nn bc bs m_L_law 581 [un, un, un, un, un, un, un, un, un, un, un, un, un, un, un] [vi x3, vr 4 188, vr 900 187, vr 164 186, vr 21 0] b I L (nwI K) := by
  refine NW_call (hf := rfl) (hr := rfl) hbc hbs (c_Lbegun (K := fun v _ _ _ _ => v = nI 1) h hV hT hA hnv hnt hnn (Nat.le_refl _) (Nat.le_refl _) (fun _ _ _ _ => rfl)) (fun v b' m' I' L' k => ?_)
  rcases v with v | v | v
  · have k : v = nI 1 := k
    subst k
    refine v_L_law_584 (vn := nI 1) ?_
    simp (disch := first | omega | assumption) only [n_lit, n_gLt, n_gLe, n_gEq, n_gEq2, n_gLe2, n_gLt2, n_m1, n_add, n_mul, n_lt, n_le, n_eq, n_cl, n_in, n_rem, n_mlt, n_mle, n_ltm, n_lem, n_eqm, n_meq, n_bit, n_shl, n_b0, n_b1, n_sub, n_inT, nT, nF, lT, lF, eT, eF, not_false_eq_true, not_true_eq_false, sI_at, sI_c, sI_j, aI_at, aI_c, sL_at, sL_c, sL_j, true_and, and_true, not_true_eq_false, not_false_eq_true, forall_const, true_implies, false_implies, implies_true, if_true, if_false, ite_true, ite_false, Bool.not_eq_true, Bool.not_eq_false, Bool.true_eq_false, Bool.false_eq_true, false_and, and_false, or_true, true_or, false_or, or_false]
    exact hK b' m' I' L'
  · exact k.elim
  · exact k.elim
theorem lw_ways {b : Bool} {I : MI} {L : ML} (h : LB V T B I) (hV : Vok V) (hT : T.length ≤ 4) (hA : ∀ q, q ∈ T → Aok q) (hnv : B.nv = 1) (hnt : 1 ≤ B.nt) (hnn : 189 ≤ nn ∧ nn < 990) (hbc : 4 ≤ bc) (hbs : 151 ≤ bs) (hK : ∀ b' n' I' L', K (nI 1) b' n' I' L') : NW nn bc bs m_L_law 568 [un, vr 21 0, vr 164 186, vi x3, un, vr 900 187, vr 4 188, un, un, un, un, un, un, un, un] [vi x3, vr 900 187, vr 164 186, vr 21 0] b I L (nwI K) := by
  refine NW_call (hf := rfl) (hr := rfl) (by omega) (by omega) (c_Lways (K := fun v _ n' I' _ => v = nI 1 ∧ (189 ≤ n' ∧ n' ≤ nn + 1) ∧ ∃ B', LB V T B' I' ∧ 1 ≤ B'.nv ∧ 1 ≤ B'.nt) h hV hnv ⟨hnn.1, by omega⟩ (Nat.le_refl _) (Nat.le_refl _) (fun b' n' I' L' B' g1 g2 g3 g4 => ⟨rfl, g4, B', g1, g2, by omega⟩)) (fun v b' m' I' L' k => ?_)
  rcases v with v | v | v
  · obtain ⟨k0, k1, B', k2, k3, k4⟩ := (show v = nI 1 ∧ (189 ≤ m' ∧ m' ≤ nn + 1) ∧ ∃ B', LB V T B' I' ∧ 1 ≤ B'.nv ∧ 1 ≤ B'.nt from k)
    subst k0
    refine v_L_law_571 (vn := nI 1) ?_
    simp (disch := first | omega | assumption) only [n_lit, n_gLt, n_gLe, n_gEq, n_gEq2, n_gLe2, n_gLt2, n_m1, n_add, n_mul, n_lt, n_le, n_eq, n_cl, n_in, n_rem, n_mlt, n_mle, n_ltm, n_lem, n_eqm, n_meq, n_bit, n_shl, n_b0, n_b1, n_sub, n_inT, nT, nF, lT, lF, eT, eF, not_false_eq_true, not_true_eq_false, sI_at, sI_c, sI_j, aI_at, aI_c, sL_at, sL_c, sL_j, true_and, and_true, not_true_eq_false, not_false_eq_true, forall_const, true_implies, false_implies, implies_true, if_true, if_false, ite_true, ite_false, Bool.not_eq_true, Bool.not_eq_false, Bool.true_eq_false, Bool.false_eq_true, false_and, and_false, or_true, true_or, false_or, or_false]
    exact lw_begun k2 hV hT hA k3 k4 ⟨k1.1, by omega⟩ (by omega) (by omega) hK
  · exact k.elim
  · exact k.elim
theorem lw_cure {b : Bool} {I : MI} {L : ML} (h : LB V T B I) (hV : Vok V) (hT : T.length ≤ 4) (hA : ∀ q, q ∈ T → Aok q) (hnv : B.nv = 1) (hnt : B.nt = 1) (hnn : 189 ≤ nn ∧ nn < 980) (hbc : 5 ≤ bc) (hbs : 176 ≤ bs) (hK : ∀ b' n' I' L', K (nI 1) b' n' I' L') : NW nn bc bs m_L_law 557 [un, vr 21 0, vr 164 186, vi x3, un, vr 900 187, vr 4 188, un, un, un, un, un, un, un, un] [vi x3, vr 4 188, vr 900 187, vr 164 186, vr 21 0] b I L (nwI K) := by
  refine NW_call (hf := rfl) (hr := rfl) (by omega) (by omega) (c_Lcure (K := fun v _ n' I' _ => v = nI 1 ∧ (189 ≤ n' ∧ n' ≤ nn + 1) ∧ ∃ B', LB V T B' I' ∧ B'.nv = 1 ∧ 1 ≤ B'.nt) h hV hT hA hnv hnt ⟨hnn.1, by omega⟩ (Nat.le_refl _) (Nat.le_refl _) (fun b' n' I' L' B' g1 g2 g3 g4 => ⟨rfl, g4, B', g1, g2, g3⟩)) (fun v b' m' I' L' k => ?_)
  rcases v with v | v | v
  · obtain ⟨k0, k1, B', k2, k3, k4⟩ := (show v = nI 1 ∧ (189 ≤ m' ∧ m' ≤ nn + 1) ∧ ∃ B', LB V T B' I' ∧ B'.nv = 1 ∧ 1 ≤ B'.nt from k)
    subst k0
    refine v_L_law_560 (vn := nI 1) ?_
    simp (disch := first | omega | assumption) only [n_lit, n_gLt, n_gLe, n_gEq, n_gEq2, n_gLe2, n_gLt2, n_m1, n_add, n_mul, n_lt, n_le, n_eq, n_cl, n_in, n_rem, n_mlt, n_mle, n_ltm, n_lem, n_eqm, n_meq, n_bit, n_shl, n_b0, n_b1, n_sub, n_inT, nT, nF, lT, lF, eT, eF, not_false_eq_true, not_true_eq_false, sI_at, sI_c, sI_j, aI_at, aI_c, sL_at, sL_c, sL_j, true_and, and_true, not_true_eq_false, not_false_eq_true, forall_const, true_implies, false_implies, implies_true, if_true, if_false, ite_true, ite_false, Bool.not_eq_true, Bool.not_eq_false, Bool.true_eq_false, Bool.false_eq_true, false_and, and_false, or_true, true_or, false_or, or_false]
    exact lw_ways k2 hV hT hA k3 k4 ⟨k1.1, by omega⟩ (by omega) (by omega) hK
  · exact k.elim
  · exact k.elim
/-- who ever holds was told, and heard it no later -/
theorem lw_438 (hV : Vok V) (hT : T.length ≤ 4) (hA : ∀ q, q ∈ T → Aok q) (hnv : B.nv = 1) (hnt : B.nt = 1) (hnn : 189 ≤ nn ∧ nn < 980) (hbc : 5 ≤ bc) (hbs : 176 ≤ bs) (hK : ∀ b' n' I' L', K (nI 1) b' n' I' L') : ∀ m p, p + m = V.n → ∀ b I L, LB V T B I → NW nn bc bs m_L_law 438 [un, vr 21 0, vr 164 186, vi x3, vi (nI V.n), vr 900 187, vr 4 188, un, un, un, un, vi (evI (wJ B 0) 40), vi (nI p), un, un] [] b I L (nwI K) := by
  obtain ⟨⟨n1, n8⟩, -⟩ := id hV
  intro m
  induction m with
  | zero =>
    intro p hp b I L h
    obtain rfl : p = V.n := by omega
    refine v_L_law_438 ?_
    simp (disch := first | omega | assumption) only [n_lit, n_gLt, n_gLe, n_gEq, n_gEq2, n_gLe2, n_gLt2, n_m1, n_add, n_mul, n_lt, n_le, n_eq, n_cl, n_in, n_rem, n_mlt, n_mle, n_ltm, n_lem, n_eqm, n_meq, n_bit, n_shl, n_b0, n_b1, n_sub, n_inT, nT, nF, lT, lF, eT, eF, not_false_eq_true, not_true_eq_false, sI_at, sI_c, sI_j, aI_at, aI_c, sL_at, sL_c, sL_j, true_and, and_true, not_true_eq_false, not_false_eq_true, forall_const, true_implies, false_implies, implies_true, if_true, if_false, ite_true, ite_false, Bool.not_eq_true, Bool.not_eq_false, Bool.true_eq_false, Bool.false_eq_true, false_and, and_false, or_true, true_or, false_or, or_false]
    exact lw_cure h hV hT hA hnv hnt hnn hbc hbs hK
  | succ m ih =>
    intro p hp b I L h
    have en : (B.vl 0).n = V.n := by rw [h.2.1]; rfl
    have ew : (wJ B 0).v.n = V.n := en
    have eb := ev_bit (w := wJ B 0) (N := 40) (p := p) (by omega) (by omega)
    have es := ev_sub (w := wJ B 0) (N := 40) (M := 201) (by omega) (by omega)
    refine v_L_law_438 ⟨fun z => ?_, fun _ => ?_⟩
    · rw [n_le (by omega) (by omega)] at z
      omega
    refine q_heard (j := 0) h.1.1 h.1.2.1 (by omega) (by omega) (by omega) (fun b1 I1 L1 f1 => ?_)
    have h1 := h.qf f1
    refine q_held (j := 0) (m := 39) h1.1.1 h1.1.2.1 (by omega) (by omega) (by omega) (by omega) (fun b2 I2 L2 f2 => ?_)
    have h2 := h1.qf f2
    have hle := heldN_le (wJ B 0) p 40
    have nx : ∀ {I3 : MI} {b3 : Bool} {L3 : ML}, LB V T B I3 → CI m_S_whole [vr 21 0, vi (nI 0), vi (nI 0), vi (nI 0)] b3 I3 L3 (fun v b4 I4 L4 => v = evI (wJ B 0) 201 ∧ NW nn bc bs m_L_law 438 [un, vr 21 0, vr 164 186, vi x3, vi (nI V.n), vr 900 187, vr 4 188, un, un, un, un, vi (evI (wJ B 0) 40), vi (nI (p + 1)), un, un] [] b4 I4 L4 (nwI K)) := fun h3 =>
      q_ever (j := 0) h3.1.1 h3.1.2.1 (by omega) (by omega) (fun b4 I4 L4 f4 => ⟨rfl, ih (p + 1) (by omega) b4 I4 L4 (h3.qf f4)⟩)
    by_cases c : 0 < heldN (wJ B 0) p 40
    · obtain ⟨e, he, he2⟩ := held_heard (by omega) c
      have ehe : qHea (wJ B 0) p 0 0 = nI e := by
        unfold qHea
        rw [he]
        rfl
      rw [ehe]
      rw [decide_eq_true c] at eb
      have c' : 0 < heldN (wJ B 0) p (39 + 1) := c
      have hle' : heldN (wJ B 0) p (39 + 1) ≤ 40 := hle
      simp (disch := first | omega | assumption) only [n_lit, n_gLt, n_gLe, n_gEq, n_gEq2, n_gLe2, n_gLt2, n_m1, n_add, n_mul, n_lt, n_le, n_eq, n_cl, n_in, n_rem, n_mlt, n_mle, n_ltm, n_lem, n_eqm, n_meq, n_bit, n_shl, n_b0, n_b1, n_sub, n_inT, nT, nF, lT, lF, eT, eF, not_false_eq_true, not_true_eq_false, sI_at, sI_c, sI_j, aI_at, aI_c, sL_at, sL_c, sL_j, true_and, and_true, not_true_eq_false, not_false_eq_true, forall_const, true_implies, false_implies, implies_true, if_true, if_false, ite_true, ite_false, Bool.not_eq_true, Bool.not_eq_false, Bool.true_eq_false, Bool.false_eq_true, false_and, and_false, or_true, true_or, false_or, or_false, eb]
      refine q_chain (j := 0) (p := p) h2.1.1 h2.1.2.1 (by omega) (by omega) (by omega) (fun b3 I3 L3 k f3 hk => ?_)
      simp (disch := first | omega | assumption) only [n_lit, n_gLt, n_gLe, n_gEq, n_gEq2, n_gLe2, n_gLt2, n_m1, n_add, n_mul, n_lt, n_le, n_eq, n_cl, n_in, n_rem, n_mlt, n_mle, n_ltm, n_lem, n_eqm, n_meq, n_bit, n_shl, n_b0, n_b1, n_sub, n_inT, nT, nF, lT, lF, eT, eF, not_false_eq_true, not_true_eq_false, sI_at, sI_c, sI_j, aI_at, aI_c, sL_at, sL_c, sL_j, true_and, and_true, not_true_eq_false, not_false_eq_true, forall_const, true_implies, false_implies, implies_true, if_true, if_false, ite_true, ite_false, Bool.not_eq_true, Bool.not_eq_false, Bool.true_eq_false, Bool.false_eq_true, false_and, and_false, or_true, true_or, false_or, or_false]
      refine q_ever (j := 0) (h2.qf f3).1.1 (h2.qf f3).1.2.1 (by omega) (by omega) (fun b4 I4 L4 f4 => ?_)
      simp (disch := first | omega | assumption) only [n_lit, n_gLt, n_gLe, n_gEq, n_gEq2, n_gLe2, n_gLt2, n_m1, n_add, n_mul, n_lt, n_le, n_eq, n_cl, n_in, n_rem, n_mlt, n_mle, n_ltm, n_lem, n_eqm, n_meq, n_bit, n_shl, n_b0, n_b1, n_sub, n_inT, nT, nF, lT, lF, eT, eF, not_false_eq_true, not_true_eq_false, sI_at, sI_c, sI_j, aI_at, aI_c, sL_at, sL_c, sL_j, true_and, and_true, not_true_eq_false, not_false_eq_true, forall_const, true_implies, false_implies, implies_true, if_true, if_false, ite_true, ite_false, Bool.not_eq_true, Bool.not_eq_false, Bool.true_eq_false, Bool.false_eq_true, false_and, and_false, or_true, true_or, false_or, or_false, es]
      exact ih (p + 1) (by omega) b4 I4 L4 ((h2.qf f3).qf f4)
    · have c0 : heldN (wJ B 0) p 40 = 0 := by omega
      rw [decide_eq_false c] at eb
      have c0' : heldN (wJ B 0) p (39 + 1) = 0 := c0
      rw [c0']
      simp (disch := first | omega | assumption) only [n_lit, n_gLt, n_gLe, n_gEq, n_gEq2, n_gLe2, n_gLt2, n_m1, n_add, n_mul, n_lt, n_le, n_eq, n_cl, n_in, n_rem, n_mlt, n_mle, n_ltm, n_lem, n_eqm, n_meq, n_bit, n_shl, n_b0, n_b1, n_sub, n_inT, nT, nF, lT, lF, eT, eF, not_false_eq_true, not_true_eq_false, sI_at, sI_c, sI_j, aI_at, aI_c, sL_at, sL_c, sL_j, true_and, and_true, not_true_eq_false, not_false_eq_true, forall_const, true_implies, false_implies, implies_true, if_true, if_false, ite_true, ite_false, Bool.not_eq_true, Bool.not_eq_false, Bool.true_eq_false, Bool.false_eq_true, false_and, and_false, or_true, true_or, false_or, or_false, eb]
      refine q_ever (j := 0) h2.1.1 h2.1.2.1 (by omega) (by omega) (fun b4 I4 L4 f4 => ?_)
      simp (disch := first | omega | assumption) only [n_lit, n_gLt, n_gLe, n_gEq, n_gEq2, n_gLe2, n_gLt2, n_m1, n_add, n_mul, n_lt, n_le, n_eq, n_cl, n_in, n_rem, n_mlt, n_mle, n_ltm, n_lem, n_eqm, n_meq, n_bit, n_shl, n_b0, n_b1, n_sub, n_inT, nT, nF, lT, lF, eT, eF, not_false_eq_true, not_true_eq_false, sI_at, sI_c, sI_j, aI_at, aI_c, sL_at, sL_c, sL_j, true_and, and_true, not_true_eq_false, not_false_eq_true, forall_const, true_implies, false_implies, implies_true, if_true, if_false, ite_true, ite_false, Bool.not_eq_true, Bool.not_eq_false, Bool.true_eq_false, Bool.false_eq_true, false_and, and_false, or_true, true_or, false_or, or_false, es]
      exact ih (p + 1) (by omega) b4 I4 L4 (h2.qf f4)
theorem lw_387 (hV : Vok V) (hT : T.length ≤ 4) (hA : ∀ q, q ∈ T → Aok q) (hnv : B.nv = 1) (hnt : B.nt = 1) (hnn : 189 ≤ nn ∧ nn < 980) (hbc : 5 ≤ bc) (hbs : 176 ≤ bs) (hK : ∀ b' n' I' L', K (nI 1) b' n' I' L') : ∀ m d, d + m = 40 → ∀ b I L, LB V T B I → NW nn bc bs m_L_law 387 [un, vr 21 0, vr 164 186, vi x3, vi (nI V.n), vr 900 187, vr 4 188, un, un, un, un, vi (evI (wJ B 0) d), vi (nI d), un, un] [] b I L (nwI K) := by
  obtain ⟨⟨n1, n8⟩, -⟩ := id hV
  intro m
  induction m with
  | zero =>
    intro d hd b I L h
    obtain rfl : d = 40 := by omega
    refine v_L_law_387 ?_
    simp (disch := first | omega | assumption) only [n_lit, n_gLt, n_gLe, n_gEq, n_gEq2, n_gLe2, n_gLt2, n_m1, n_add, n_mul, n_lt, n_le, n_eq, n_cl, n_in, n_rem, n_mlt, n_mle, n_ltm, n_lem, n_eqm, n_meq, n_bit, n_shl, n_b0, n_b1, n_sub, n_inT, nT, nF, lT, lF, eT, eF, not_false_eq_true, not_true_eq_false, sI_at, sI_c, sI_j, aI_at, aI_c, sL_at, sL_c, sL_j, true_and, and_true, not_true_eq_false, not_false_eq_true, forall_const, true_implies, false_implies, implies_true, if_true, if_false, ite_true, ite_false, Bool.not_eq_true, Bool.not_eq_false, Bool.true_eq_false, Bool.false_eq_true, false_and, and_false, or_true, true_or, false_or, or_false]
    exact lw_438 hV hT hA hnv hnt hnn hbc hbs hK V.n 0 (Nat.zero_add _) b I L h
  | succ m ih =>
    intro d hd b I L h
    have en : (B.vl 0).n = V.n := by rw [h.2.1]; rfl
    have ew : (wJ B 0).v.n = V.n := en
    refine v_L_law_387 ?_
    simp (disch := first | omega | assumption) only [n_lit, n_gLt, n_gLe, n_gEq, n_gEq2, n_gLe2, n_gLt2, n_m1, n_add, n_mul, n_lt, n_le, n_eq, n_cl, n_in, n_rem, n_mlt, n_mle, n_ltm, n_lem, n_eqm, n_meq, n_bit, n_shl, n_b0, n_b1, n_sub, n_inT, nT, nF, lT, lF, eT, eF, not_false_eq_true, not_true_eq_false, sI_at, sI_c, sI_j, aI_at, aI_c, sL_at, sL_c, sL_j, true_and, and_true, not_true_eq_false, not_false_eq_true, forall_const, true_implies, false_implies, implies_true, if_true, if_false, ite_true, ite_false, Bool.not_eq_true, Bool.not_eq_false, Bool.true_eq_false, Bool.false_eq_true, false_and, and_false, or_true, true_or, false_or, or_false]
    refine q_holders (j := 0) (s := 0) h.1.1 h.1.2.1 (by omega) (by omega) (by omega) (by decide) (fun b1 I1 L1 f1 => ?_)
    have h1 := h.qf f1
    refine q_holders (j := 0) (s := 1) h1.1.1 h1.1.2.1 (by omega) (by omega) (by omega) (by decide) (fun b2 I2 L2 f2 => ?_)
    have h2 := h1.qf f2
    have e1 : (if (0 : Nat) = 0 then hdI (wJ B 0) d else dnI (wJ B 0) d) = hdI (wJ B 0) d := if_pos rfl
    have e2 : (if (1 : Nat) = 0 then hdI (wJ B 0) d else dnI (wJ B 0) d) = dnI (wJ B 0) d := if_neg (by decide)
    have e3 := hold_deny (wJ B 0) (by omega) d
    have e4 := evI_next (w := wJ B 0) (by omega) d
    rw [e1, e2]
    simp (disch := first | omega | assumption) only [n_lit, n_gLt, n_gLe, n_gEq, n_gEq2, n_gLe2, n_gLt2, n_m1, n_add, n_mul, n_lt, n_le, n_eq, n_cl, n_in, n_rem, n_mlt, n_mle, n_ltm, n_lem, n_eqm, n_meq, n_bit, n_shl, n_b0, n_b1, n_sub, n_inT, nT, nF, lT, lF, eT, eF, not_false_eq_true, not_true_eq_false, sI_at, sI_c, sI_j, aI_at, aI_c, sL_at, sL_c, sL_j, true_and, and_true, not_true_eq_false, not_false_eq_true, forall_const, true_implies, false_implies, implies_true, if_true, if_false, ite_true, ite_false, Bool.not_eq_true, Bool.not_eq_false, Bool.true_eq_false, Bool.false_eq_true, false_and, and_false, or_true, true_or, false_or, or_false, e3, e4]
    exact ih (d + 1) (by omega) b2 I2 L2 h2
/-- from the ring on each day is as the ring's length later -/
theorem lw_253 {a l : Nat} (hR : rgU (wJ B 0) 201 = some (a, l)) (hV : Vok V) (hT : T.length ≤ 4) (hA : ∀ q, q ∈ T → Aok q) (hnv : B.nv = 1) (hnt : B.nt = 1) (hnn : 189 ≤ nn ∧ nn < 980) (hbc : 5 ≤ bc) (hbs : 176 ≤ bs) (hK : ∀ b' n' I' L', K (nI 1) b' n' I' L') : ∀ m d, d + m = a + l → a ≤ d → ∀ (f : Bool), (f = true ↔ ∀ e, a ≤ e → e < d → hdI (wJ B 0) e = nI 0) → ∀ b I L, LB V T B I → NW nn bc bs m_L_law 253 [un, vr 21 0, vr 164 186, vi x3, vi (nI V.n), vr 900 187, vr 4 188, vi (nI a), vi (nI l), vi (nI (cleanB (wJ B 0)).toNat), vi (nI f.toNat), vi (nI d), un, un, un] [] b I L (nwI K) := by
  obtain ⟨⟨n1, n8⟩, -⟩ := id hV
  obtain ⟨r1, r2, r3, -⟩ := rgU_some hR
  have hcl := clean_iff hR
  intro m
  induction m with
  | zero =>
    intro d hd had f hf b I L h
    obtain rfl : d = a + l := by omega
    have ef : cleanB (wJ B 0) = f := by
      cases c : f with
      | true =>
        rw [c] at hf
        exact hcl.mpr (hf.mp rfl)
      | false =>
        rw [c] at hf
        cases c2 : cleanB (wJ B 0) with
        | false => rfl
        | true => exact absurd (hf.mpr (hcl.mp c2)) Bool.false_ne_true
    have nx : NW nn bc bs m_L_law 387 [un, vr 21 0, vr 164 186, vi x3, vi (nI V.n), vr 900 187, vr 4 188, un, un, un, un, vi (nI 0), vi (nI 0), un, un] [] b I L (nwI K) := by
      have := lw_387 (x3 := x3) hV hT hA hnv hnt hnn hbc hbs hK 40 0 rfl b I L h
      rw [evI_0] at this
      exact this
    rw [ef]
    refine v_L_law_253 ?_
    cases f with
    | true =>
      rw [show true.toNat = 1 from rfl]
      simp (disch := first | omega | assumption) only [n_lit, n_gLt, n_gLe, n_gEq, n_gEq2, n_gLe2, n_gLt2, n_m1, n_add, n_mul, n_lt, n_le, n_eq, n_cl, n_in, n_rem, n_mlt, n_mle, n_ltm, n_lem, n_eqm, n_meq, n_bit, n_shl, n_b0, n_b1, n_sub, n_inT, nT, nF, lT, lF, eT, eF, not_false_eq_true, not_true_eq_false, sI_at, sI_c, sI_j, aI_at, aI_c, sL_at, sL_c, sL_j, true_and, and_true, not_true_eq_false, not_false_eq_true, forall_const, true_implies, false_implies, implies_true, if_true, if_false, ite_true, ite_false, Bool.not_eq_true, Bool.not_eq_false, Bool.true_eq_false, Bool.false_eq_true, false_and, and_false, or_true, true_or, false_or, or_false]
      exact nx
    | false =>
      rw [show false.toNat = 0 from rfl]
      simp (disch := first | omega | assumption) only [n_lit, n_gLt, n_gLe, n_gEq, n_gEq2, n_gLe2, n_gLt2, n_m1, n_add, n_mul, n_lt, n_le, n_eq, n_cl, n_in, n_rem, n_mlt, n_mle, n_ltm, n_lem, n_eqm, n_meq, n_bit, n_shl, n_b0, n_b1, n_sub, n_inT, nT, nF, lT, lF, eT, eF, not_false_eq_true, not_true_eq_false, sI_at, sI_c, sI_j, aI_at, aI_c, sL_at, sL_c, sL_j, true_and, and_true, not_true_eq_false, not_false_eq_true, forall_const, true_implies, false_implies, implies_true, if_true, if_false, ite_true, ite_false, Bool.not_eq_true, Bool.not_eq_false, Bool.true_eq_false, Bool.false_eq_true, false_and, and_false, or_true, true_or, false_or, or_false]
      exact nx
  | succ m ih =>
    intro d hd had f hf b I L h
    have hv := h.1.1.2.2.1 0 (by omega)
    have ht := h.1.1.2.2.2 0 (by omega)
    have hst : (wJ B 0).still := mkW_still (ok41 hv) ht
    obtain ⟨p1, p2⟩ := per_d (w := wJ B 0) (ok41 hv) hst hR had
    have nx : ∀ (g : Bool), (g = true ↔ (f = true ∧ hdI (wJ B 0) d = nI 0)) → ∀ b I L, LB V T B I → NW nn bc bs m_L_law 253 [un, vr 21 0, vr 164 186, vi x3, vi (nI V.n), vr 900 187, vr 4 188, vi (nI a), vi (nI l), vi (nI (cleanB (wJ B 0)).toNat), vi (nI g.toNat), vi (nI (d + 1)), un, un, un] [] b I L (nwI K) := fun g hg b I L h => by
      refine ih (d + 1) (by omega) (by omega) g ⟨fun z e e1 e2 => ?_, fun z => ?_⟩ b I L h
      · obtain ⟨z1, z2⟩ := hg.mp z
        by_cases c : e = d
        · rw [c]
          exact z2
        · exact hf.mp z1 e e1 (by omega)
      · exact hg.mpr ⟨hf.mpr (fun e e1 e2 => z e e1 (by omega)), z d had (by omega)⟩
    have en : (B.vl 0).n = V.n := by rw [h.2.1]; rfl
    -- the two days' holders, then their deniers
    refine v_L_law_253 ?_
    cases f with
    | false =>
      have nx0 := nx false ⟨fun z => absurd z Bool.false_ne_true, fun z => absurd z.1 Bool.false_ne_true⟩
      rw [show false.toNat = 0 from rfl] at nx0 ⊢
      by_cases c : 200 < d + l
      · simp (disch := first | omega | assumption) only [n_lit, n_gLt, n_gLe, n_gEq, n_gEq2, n_gLe2, n_gLt2, n_m1, n_add, n_mul, n_lt, n_le, n_eq, n_cl, n_in, n_rem, n_mlt, n_mle, n_ltm, n_lem, n_eqm, n_meq, n_bit, n_shl, n_b0, n_b1, n_sub, n_inT, nT, nF, lT, lF, eT, eF, not_false_eq_true, not_true_eq_false, sI_at, sI_c, sI_j, aI_at, aI_c, sL_at, sL_c, sL_j, true_and, and_true, not_true_eq_false, not_false_eq_true, forall_const, true_implies, false_implies, implies_true, if_true, if_false, ite_true, ite_false, Bool.not_eq_true, Bool.not_eq_false, Bool.true_eq_false, Bool.false_eq_true, false_and, and_false, or_true, true_or, false_or, or_false]
        exact nx0 b I L h
      · simp (disch := first | omega | assumption) only [n_lit, n_gLt, n_gLe, n_gEq, n_gEq2, n_gLe2, n_gLt2, n_m1, n_add, n_mul, n_lt, n_le, n_eq, n_cl, n_in, n_rem, n_mlt, n_mle, n_ltm, n_lem, n_eqm, n_meq, n_bit, n_shl, n_b0, n_b1, n_sub, n_inT, nT, nF, lT, lF, eT, eF, not_false_eq_true, not_true_eq_false, sI_at, sI_c, sI_j, aI_at, aI_c, sL_at, sL_c, sL_j, true_and, and_true, not_true_eq_false, not_false_eq_true, forall_const, true_implies, false_implies, implies_true, if_true, if_false, ite_true, ite_false, Bool.not_eq_true, Bool.not_eq_false, Bool.true_eq_false, Bool.false_eq_true, false_and, and_false, or_true, true_or, false_or, or_false]
        refine q_holders (j := 0) (s := 0) (d := d) h.1.1 h.1.2.1 (by omega) (by omega) (by omega) (by decide) (fun b1 I1 L1 f1 => ?_)
        have h1 := h.qf f1
        refine q_holders (j := 0) (s := 0) (d := d + l) h1.1.1 h1.1.2.1 (by omega) (by omega) (by omega) (by decide) (fun b2 I2 L2 f2 => ?_)
        have h2 := h1.qf f2
        rw [if_pos rfl, if_pos rfl, ← p1]
        refine ⟨fun z => absurd rfl z, fun _ => ?_⟩
        refine q_holders (j := 0) (s := 1) (d := d) h2.1.1 h2.1.2.1 (by omega) (by omega) (by omega) (by decide) (fun b3 I3 L3 f3 => ?_)
        have h3 := h2.qf f3
        refine q_holders (j := 0) (s := 1) (d := d + l) h3.1.1 h3.1.2.1 (by omega) (by omega) (by omega) (by decide) (fun b4 I4 L4 f4 => ?_)
        rw [if_neg (by decide), if_neg (by decide), ← p2]
        exact ⟨fun _ => nx0 b4 I4 L4 (h3.qf f4), fun z => absurd rfl z⟩
    | true =>
      rw [show true.toNat = 1 from rfl]
      simp (disch := first | omega | assumption) only [n_lit, n_gLt, n_gLe, n_gEq, n_gEq2, n_gLe2, n_gLt2, n_m1, n_add, n_mul, n_lt, n_le, n_eq, n_cl, n_in, n_rem, n_mlt, n_mle, n_ltm, n_lem, n_eqm, n_meq, n_bit, n_shl, n_b0, n_b1, n_sub, n_inT, nT, nF, lT, lF, eT, eF, not_false_eq_true, not_true_eq_false, sI_at, sI_c, sI_j, aI_at, aI_c, sL_at, sL_c, sL_j, true_and, and_true, not_true_eq_false, not_false_eq_true, forall_const, true_implies, false_implies, implies_true, if_true, if_false, ite_true, ite_false, Bool.not_eq_true, Bool.not_eq_false, Bool.true_eq_false, Bool.false_eq_true, false_and, and_false, or_true, true_or, false_or, or_false]
      refine q_holders (j := 0) (s := 0) (d := d) h.1.1 h.1.2.1 (by omega) (by omega) (by omega) (by decide) (fun b0 I0 L0 f0 => ?_)
      have h0 := h.qf f0
      rw [if_pos rfl]
      by_cases ch : hdI (wJ B 0) d = nI 0
      · have nx1 := nx true ⟨fun _ => ⟨rfl, ch⟩, fun _ => rfl⟩
        rw [show true.toNat = 1 from rfl] at nx1
        refine ⟨fun z => absurd ch z, fun _ => ?_⟩
        by_cases c : 200 < d + l
        · simp (disch := first | omega | assumption) only [n_lit, n_gLt, n_gLe, n_gEq, n_gEq2, n_gLe2, n_gLt2, n_m1, n_add, n_mul, n_lt, n_le, n_eq, n_cl, n_in, n_rem, n_mlt, n_mle, n_ltm, n_lem, n_eqm, n_meq, n_bit, n_shl, n_b0, n_b1, n_sub, n_inT, nT, nF, lT, lF, eT, eF, not_false_eq_true, not_true_eq_false, sI_at, sI_c, sI_j, aI_at, aI_c, sL_at, sL_c, sL_j, true_and, and_true, not_true_eq_false, not_false_eq_true, forall_const, true_implies, false_implies, implies_true, if_true, if_false, ite_true, ite_false, Bool.not_eq_true, Bool.not_eq_false, Bool.true_eq_false, Bool.false_eq_true, false_and, and_false, or_true, true_or, false_or, or_false]
          exact nx1 b0 I0 L0 h0
        · simp (disch := first | omega | assumption) only [n_lit, n_gLt, n_gLe, n_gEq, n_gEq2, n_gLe2, n_gLt2, n_m1, n_add, n_mul, n_lt, n_le, n_eq, n_cl, n_in, n_rem, n_mlt, n_mle, n_ltm, n_lem, n_eqm, n_meq, n_bit, n_shl, n_b0, n_b1, n_sub, n_inT, nT, nF, lT, lF, eT, eF, not_false_eq_true, not_true_eq_false, sI_at, sI_c, sI_j, aI_at, aI_c, sL_at, sL_c, sL_j, true_and, and_true, not_true_eq_false, not_false_eq_true, forall_const, true_implies, false_implies, implies_true, if_true, if_false, ite_true, ite_false, Bool.not_eq_true, Bool.not_eq_false, Bool.true_eq_false, Bool.false_eq_true, false_and, and_false, or_true, true_or, false_or, or_false]
          refine q_holders (j := 0) (s := 0) (d := d) h0.1.1 h0.1.2.1 (by omega) (by omega) (by omega) (by decide) (fun b1 I1 L1 f1 => ?_)
          have h1 := h0.qf f1
          refine q_holders (j := 0) (s := 0) (d := d + l) h1.1.1 h1.1.2.1 (by omega) (by omega) (by omega) (by decide) (fun b2 I2 L2 f2 => ?_)
          have h2 := h1.qf f2
          rw [if_pos rfl, if_pos rfl, ← p1]
          refine ⟨fun z => absurd rfl z, fun _ => ?_⟩
          refine q_holders (j := 0) (s := 1) (d := d) h2.1.1 h2.1.2.1 (by omega) (by omega) (by omega) (by decide) (fun b3 I3 L3 f3 => ?_)
          have h3 := h2.qf f3
          refine q_holders (j := 0) (s := 1) (d := d + l) h3.1.1 h3.1.2.1 (by omega) (by omega) (by omega) (by decide) (fun b4 I4 L4 f4 => ?_)
          rw [if_neg (by decide), if_neg (by decide), ← p2]
          exact ⟨fun _ => nx1 b4 I4 L4 (h3.qf f4), fun z => absurd rfl z⟩
      · have nx0 := nx false ⟨fun z => absurd z Bool.false_ne_true, fun z => absurd z.2 ch⟩
        rw [show false.toNat = 0 from rfl] at nx0
        refine ⟨fun _ => ?_, fun z => absurd ch z⟩
        by_cases c : 200 < d + l
        · simp (disch := first | omega | assumption) only [n_lit, n_gLt, n_gLe, n_gEq, n_gEq2, n_gLe2, n_gLt2, n_m1, n_add, n_mul, n_lt, n_le, n_eq, n_cl, n_in, n_rem, n_mlt, n_mle, n_ltm, n_lem, n_eqm, n_meq, n_bit, n_shl, n_b0, n_b1, n_sub, n_inT, nT, nF, lT, lF, eT, eF, not_false_eq_true, not_true_eq_false, sI_at, sI_c, sI_j, aI_at, aI_c, sL_at, sL_c, sL_j, true_and, and_true, not_true_eq_false, not_false_eq_true, forall_const, true_implies, false_implies, implies_true, if_true, if_false, ite_true, ite_false, Bool.not_eq_true, Bool.not_eq_false, Bool.true_eq_false, Bool.false_eq_true, false_and, and_false, or_true, true_or, false_or, or_false]
          exact nx0 b0 I0 L0 h0
        · simp (disch := first | omega | assumption) only [n_lit, n_gLt, n_gLe, n_gEq, n_gEq2, n_gLe2, n_gLt2, n_m1, n_add, n_mul, n_lt, n_le, n_eq, n_cl, n_in, n_rem, n_mlt, n_mle, n_ltm, n_lem, n_eqm, n_meq, n_bit, n_shl, n_b0, n_b1, n_sub, n_inT, nT, nF, lT, lF, eT, eF, not_false_eq_true, not_true_eq_false, sI_at, sI_c, sI_j, aI_at, aI_c, sL_at, sL_c, sL_j, true_and, and_true, not_true_eq_false, not_false_eq_true, forall_const, true_implies, false_implies, implies_true, if_true, if_false, ite_true, ite_false, Bool.not_eq_true, Bool.not_eq_false, Bool.true_eq_false, Bool.false_eq_true, false_and, and_false, or_true, true_or, false_or, or_false]
          refine q_holders (j := 0) (s := 0) (d := d) h0.1.1 h0.1.2.1 (by omega) (by omega) (by omega) (by decide) (fun b1 I1 L1 f1 => ?_)
          have h1 := h0.qf f1
          refine q_holders (j := 0) (s := 0) (d := d + l) h1.1.1 h1.1.2.1 (by omega) (by omega) (by omega) (by decide) (fun b2 I2 L2 f2 => ?_)
          have h2 := h1.qf f2
          rw [if_pos rfl, if_pos rfl, ← p1]
          refine ⟨fun z => absurd rfl z, fun _ => ?_⟩
          refine q_holders (j := 0) (s := 1) (d := d) h2.1.1 h2.1.2.1 (by omega) (by omega) (by omega) (by decide) (fun b3 I3 L3 f3 => ?_)
          have h3 := h2.qf f3
          refine q_holders (j := 0) (s := 1) (d := d + l) h3.1.1 h3.1.2.1 (by omega) (by omega) (by omega) (by decide) (fun b4 I4 L4 f4 => ?_)
          rw [if_neg (by decide), if_neg (by decide), ← p2]
          exact ⟨fun _ => nx0 b4 I4 L4 (h3.qf f4), fun z => absurd rfl z⟩
/-- the village told, the telling told, the ring -/
theorem lw_123 {b : Bool} {I : MI} {L : ML} (h : LwS B I) (hV : Vok V) (hT : T.length ≤ 4) (hA : ∀ q, q ∈ T → Aok q) (hnv : B.nv = 0) (hnt : B.nt = 0) (hP : vaP 187 V I) (hQ : taP 188 T I) (hN : I 200188 0 = nI (1 + 4 * T.length)) (hnn : 189 ≤ nn ∧ nn < 980) (hbc : 5 ≤ bc) (hbs : 176 ≤ bs) (hK : ∀ b' n' I' L', K (nI 1) b' n' I' L') : NW nn bc bs m_L_law 123 [un, vr 21 0, vr 164 186, vi x3, vi (nI V.n), vr 900 187, un, un, un, un, un, un, un, un, un] [vr 4 188] b I L (nwI K) := by
  obtain ⟨⟨n1, n8⟩, -⟩ := id hV
  refine v_L_law_123 ?_
  refine c_Lvillage (k := 0) h hV (by omega) hP (Or.inl ⟨rfl, hnv.symm, by decide⟩) rfl (fun b1 I1 L1 B1 g1 g2 g3 g4 g5 f1 => ?_)
  refine ⟨fun z => absurd z (by decide), fun _ => ?_⟩
  have hQ1 : taP 188 T I1 := taP_fr (f1 188 (by omega)) (f1 200188 (by omega)) hQ
  have nv1 : B1.nv = 1 := by rw [g2, hnv]; rfl
  have nt1 : B1.nt = 0 := g3.trans hnt
  refine c_Ltelling (k := 0) g1 (by omega) hQ1 hA (by omega) (Or.inl ⟨rfl, nt1.symm, by decide⟩) rfl (fun b2 I2 L2 B2 k1 k2 k3 k4 k5 f2 => ?_)
  refine ⟨fun _ => ?_, fun z => absurd z (by decide)⟩
  have nv2 : B2.nv = 1 := k2.trans nv1
  have nt2 : B2.nt = 1 := by rw [k3, nt1]; rfl
  have h2 : LB V T B2 I2 := by
    refine ⟨k1, ?_, ?_, vaP_fr (by rw [f2 187 (by omega), f1 187 (by omega)]) hP, taP_fr (f2 188 (by omega)) (f2 200188 (by omega)) hQ1, by rw [f2 200188 (by omega), f1 200188 (by omega)]; exact hN⟩
    · rw [k4, g4]
      exact if_pos rfl
    · rw [k5]
      exact if_pos rfl
  have ht := k1.1.2.2.2 0 (by omega)
  have hla : (wJ B2 0).la ≤ 200 := laW_le ht wi0_ok
  refine q_run (j := 0) h2.1.1 h2.1.2.1 (by omega) (by omega) (nI 0) (fun b3 I3 L3 f3 => ?_)
  have h3 := h2.qf f3
  refine q_run (j := 0) h3.1.1 h3.1.2.1 (by omega) (by omega) (nI 1) (fun b4 I4 L4 f4 => ?_)
  have h4 := h3.qf f4
  refine q_run (j := 0) h4.1.1 h4.1.2.1 (by omega) (by omega) (nI 2) (fun b5 I5 L5 f5 => ?_)
  have h5 := h4.qf f5
  have e0 : qRun (wJ B2 0) (nI 0) = rdI (rgU (wJ B2 0) 201) := by
    unfold qRun
    rw [if_pos rfl]
  have e1 : qRun (wJ B2 0) (nI 1) = rlI (rgU (wJ B2 0) 201) := by
    unfold qRun
    rw [if_neg (by decide), if_pos rfl]
  have e2 : qRun (wJ B2 0) (nI 2) = nI (cleanB (wJ B2 0)).toNat := by
    unfold qRun
    rw [if_neg (by decide), if_neg (by decide), if_pos rfl]
  have e3 : qRun (wJ B2 0) (nI 3) = nI (wJ B2 0).la := by
    unfold qRun
    rw [if_neg (by decide), if_neg (by decide), if_neg (by decide), if_pos rfl]
  rw [e0, e1, e2]
  cases hR : rgU (wJ B2 0) 201 with
  | none =>
    rw [clean_no hR, show rdI none = nM from rfl, show rlI none = nM from rfl, show false.toNat = 0 from rfl]
    simp (disch := first | omega | assumption) only [n_lit, n_gLt, n_gLe, n_gEq, n_gEq2, n_gLe2, n_gLt2, n_m1, n_add, n_mul, n_lt, n_le, n_eq, n_cl, n_in, n_rem, n_mlt, n_mle, n_ltm, n_lem, n_eqm, n_meq, n_bit, n_shl, n_b0, n_b1, n_sub, n_inT, nT, nF, lT, lF, eT, eF, not_false_eq_true, not_true_eq_false, sI_at, sI_c, sI_j, aI_at, aI_c, sL_at, sL_c, sL_j, true_and, and_true, not_true_eq_false, not_false_eq_true, forall_const, true_implies, false_implies, implies_true, if_true, if_false, ite_true, ite_false, Bool.not_eq_true, Bool.not_eq_false, Bool.true_eq_false, Bool.false_eq_true, false_and, and_false, or_true, true_or, false_or, or_false]
    refine v_L_law_253 ?_
    simp (disch := first | omega | assumption) only [n_lit, n_gLt, n_gLe, n_gEq, n_gEq2, n_gLe2, n_gLt2, n_m1, n_add, n_mul, n_lt, n_le, n_eq, n_cl, n_in, n_rem, n_mlt, n_mle, n_ltm, n_lem, n_eqm, n_meq, n_bit, n_shl, n_b0, n_b1, n_sub, n_inT, nT, nF, lT, lF, eT, eF, not_false_eq_true, not_true_eq_false, sI_at, sI_c, sI_j, aI_at, aI_c, sL_at, sL_c, sL_j, true_and, and_true, not_true_eq_false, not_false_eq_true, forall_const, true_implies, false_implies, implies_true, if_true, if_false, ite_true, ite_false, Bool.not_eq_true, Bool.not_eq_false, Bool.true_eq_false, Bool.false_eq_true, false_and, and_false, or_true, true_or, false_or, or_false]
    have := lw_387 (x3 := x3) hV hT hA nv2 nt2 hnn hbc hbs hK 40 0 rfl b5 I5 L5 h5
    rw [evI_0] at this
    exact this
  | some r =>
    obtain ⟨a, l⟩ := r
    obtain ⟨r1, r2, r3, -⟩ := rgU_some hR
    rw [show rdI (some (a, l)) = nI a from rfl, show rlI (some (a, l)) = nI l from rfl]
    have nx : ∀ {b I L}, LB V T B2 I → NW nn bc bs m_L_law 253 [un, vr 21 0, vr 164 186, vi x3, vi (nI V.n), vr 900 187, vr 4 188, vi (nI a), vi (nI l), vi (nI (cleanB (wJ B2 0)).toNat), vi (nI 1), vi (nI a), un, un, un] [] b I L (nwI K) := fun {b I L} h =>
      lw_253 (f := true) hR hV hT hA nv2 nt2 hnn hbc hbs hK l a rfl (Nat.le_refl _) ⟨fun _ e e1 e2 => absurd e1 (by omega), fun _ => rfl⟩ b I L h
    cases hc : cleanB (wJ B2 0) with
    | false =>
      rw [hc, show false.toNat = 0 from rfl] at nx
      rw [show false.toNat = 0 from rfl]
      simp (disch := first | omega | assumption) only [n_lit, n_gLt, n_gLe, n_gEq, n_gEq2, n_gLe2, n_gLt2, n_m1, n_add, n_mul, n_lt, n_le, n_eq, n_cl, n_in, n_rem, n_mlt, n_mle, n_ltm, n_lem, n_eqm, n_meq, n_bit, n_shl, n_b0, n_b1, n_sub, n_inT, nT, nF, lT, lF, eT, eF, not_false_eq_true, not_true_eq_false, sI_at, sI_c, sI_j, aI_at, aI_c, sL_at, sL_c, sL_j, true_and, and_true, not_true_eq_false, not_false_eq_true, forall_const, true_implies, false_implies, implies_true, if_true, if_false, ite_true, ite_false, Bool.not_eq_true, Bool.not_eq_false, Bool.true_eq_false, Bool.false_eq_true, false_and, and_false, or_true, true_or, false_or, or_false]
      refine q_run (j := 0) h5.1.1 h5.1.2.1 (by omega) (by omega) (nI 3) (fun b6 I6 L6 f6 => ?_)
      rw [e3]
      simp (disch := first | omega | assumption) only [n_lit, n_gLt, n_gLe, n_gEq, n_gEq2, n_gLe2, n_gLt2, n_m1, n_add, n_mul, n_lt, n_le, n_eq, n_cl, n_in, n_rem, n_mlt, n_mle, n_ltm, n_lem, n_eqm, n_meq, n_bit, n_shl, n_b0, n_b1, n_sub, n_inT, nT, nF, lT, lF, eT, eF, not_false_eq_true, not_true_eq_false, sI_at, sI_c, sI_j, aI_at, aI_c, sL_at, sL_c, sL_j, true_and, and_true, not_true_eq_false, not_false_eq_true, forall_const, true_implies, false_implies, implies_true, if_true, if_false, ite_true, ite_false, Bool.not_eq_true, Bool.not_eq_false, Bool.true_eq_false, Bool.false_eq_true, false_and, and_false, or_true, true_or, false_or, or_false]
      exact nx (h5.qf f6)
    | true =>
      rw [hc, show true.toNat = 1 from rfl] at nx
      rw [show true.toNat = 1 from rfl]
      simp (disch := first | omega | assumption) only [n_lit, n_gLt, n_gLe, n_gEq, n_gEq2, n_gLe2, n_gLt2, n_m1, n_add, n_mul, n_lt, n_le, n_eq, n_cl, n_in, n_rem, n_mlt, n_mle, n_ltm, n_lem, n_eqm, n_meq, n_bit, n_shl, n_b0, n_b1, n_sub, n_inT, nT, nF, lT, lF, eT, eF, not_false_eq_true, not_true_eq_false, sI_at, sI_c, sI_j, aI_at, aI_c, sL_at, sL_c, sL_j, true_and, and_true, not_true_eq_false, not_false_eq_true, forall_const, true_implies, false_implies, implies_true, if_true, if_false, ite_true, ite_false, Bool.not_eq_true, Bool.not_eq_false, Bool.true_eq_false, Bool.false_eq_true, false_and, and_false, or_true, true_or, false_or, or_false]
      refine q_run (j := 0) h5.1.1 h5.1.2.1 (by omega) (by omega) (nI 3) (fun b6 I6 L6 f6 => ?_)
      rw [e3]
      simp (disch := first | omega | assumption) only [n_lit, n_gLt, n_gLe, n_gEq, n_gEq2, n_gLe2, n_gLt2, n_m1, n_add, n_mul, n_lt, n_le, n_eq, n_cl, n_in, n_rem, n_mlt, n_mle, n_ltm, n_lem, n_eqm, n_meq, n_bit, n_shl, n_b0, n_b1, n_sub, n_inT, nT, nF, lT, lF, eT, eF, not_false_eq_true, not_true_eq_false, sI_at, sI_c, sI_j, aI_at, aI_c, sL_at, sL_c, sL_j, true_and, and_true, not_true_eq_false, not_false_eq_true, forall_const, true_implies, false_implies, implies_true, if_true, if_false, ite_true, ite_false, Bool.not_eq_true, Bool.not_eq_false, Bool.true_eq_false, Bool.false_eq_true, false_and, and_false, or_true, true_or, false_or, or_false]
      exact nx (h5.qf f6)
end LW
/-- the row that the village lies in: those beyond the fifth -/
theorem vaE_set {r n m i j p k : Nat} {I : MI} (h : vaE r n m i j I) (hi : i ≤ 8) (hp : p < 10) (hk : k ≤ 5) : vaE r n m i j (sI (sI I r (10 + p) (nI k)) r (30 + p) (nI 1)) := by
  obtain ⟨⟨a0, a1, a2, a3, a4⟩, a5, a6⟩ := h
  refine ⟨⟨?_, ?_, ?_, ?_, ?_⟩, fun x hx => ?_, fun t ht => ?_⟩
  · rw [sI_j (by omega), sI_j (by omega)]
    exact a0
  · rw [sI_j (by omega), sI_j (by omega)]
    exact a1
  · rw [sI_j (by omega), sI_j (by omega)]
    exact a2
  · rw [sI_j (by omega), sI_j (by omega)]
    exact a3
  · rw [sI_j (by omega), sI_j (by omega)]
    exact a4
  · obtain ⟨x1, x2⟩ := a5 x hx
    by_cases e : x = p
    · subst e
      refine ⟨⟨k, by omega, hk, ?_⟩, ⟨1, by omega, by omega, ?_⟩⟩
      · rw [sI_j (by omega), sI_at]
      · rw [sI_at]
    · rw [sI_j (by omega), sI_j (by omega), sI_j (by omega), sI_j (by omega)]
      exact ⟨x1, x2⟩
  · obtain ⟨f, g, q⟩ := a6 t ht
    refine ⟨f, g, ?_⟩
    rw [sI_j (by omega), sI_j (by omega), sI_j (by omega), sI_j (by omega), sI_j (by omega), sI_j (by omega), sI_j (by omega), sI_j (by omega)]
    exact q
section LX
variable {V : Vil} {nn bc bs n A Ls : Nat} {x3 : Int32} {K : Int32 → Bool → Nat → MI → ML → Prop}
theorem lw_57 {m : Nat} (hL : Ls ≤ 260) (hn : 1 ≤ n ∧ n ≤ 8) (hm : m ≤ 12) (hbc : 6 ≤ bc) (hbs : 193 ≤ bs) (hK : ∀ b' n' I' L', K (nI 1) b' n' I' L') : ∀ f p, 5 ≤ p → p + f = (if n < 5 then 5 else n) → ∀ b I L, I 100001 0 = nI Ls → LwS B0 I → vaE 187 n m n m I → NW 188 bc bs m_L_law 57 [vr 3 0, vr 21 0, vr 164 186, vi x3, vi (nI n), vr 900 187, vi (nI p), un, un, un, un, un, un, un, un] [] b I L (nwI K) := by
  intro f
  induction f with
  | zero =>
    intro p hp5 hp b I L hs h hv
    have hnp : n ≤ p := by split at hp <;> omega
    have hp9 : p < 9 := by split at hp <;> omega
    have e1 := hv.1.2.1
    obtain ⟨j, hj, ej⟩ := and_3 (x3 >>> (nI 7 &&& nI 31))
    refine v_L_law_57 ?_
    simp (disch := first | omega | assumption) only [n_lit, n_gLt, n_gLe, n_gEq, n_gEq2, n_gLe2, n_gLt2, n_m1, n_add, n_mul, n_lt, n_le, n_eq, n_cl, n_in, n_rem, n_mlt, n_mle, n_ltm, n_lem, n_eqm, n_meq, n_bit, n_shl, n_b0, n_b1, n_sub, n_inT, nT, nF, lT, lF, eT, eF, not_false_eq_true, not_true_eq_false, sI_at, sI_c, sI_j, aI_at, aI_c, sL_at, sL_c, sL_j, true_and, and_true, not_true_eq_false, not_false_eq_true, forall_const, true_implies, false_implies, implies_true, if_true, if_false, ite_true, ite_false, Bool.not_eq_true, Bool.not_eq_false, Bool.true_eq_false, Bool.false_eq_true, false_and, and_false, or_true, true_or, false_or, or_false, e1, ej]
    refine NW_call (z := 1) (u := 17) (hf := rfl) (hr := rfl) (by omega) (by omega) (c_LdrawT (A := 1 + j) (K := fun k c b' n' I' L' => k = 4 ∧ c = 188 ∧ n' = 189 ∧ (∀ a, a ≠ 188 → a ≠ 200188 → I' a = I a) ∧ taE 188 (1 + j) (1 + j) I') hs hL hn hm (by omega) (by omega) (Nat.le_refl _) (Nat.le_refl _) (fun b' I' L' f1 f2 => ⟨rfl, rfl, rfl, f1, f2⟩)) (fun v b' m' I' L' k => ?_)
    rcases v with v | v | v
    · exact k.elim
    · exact k.elim
    · obtain ⟨v1, v2⟩ := v
      obtain ⟨rfl, rfl, rfl, k4, k5⟩ := (show v1 = 4 ∧ v2 = 188 ∧ m' = 189 ∧ (∀ a, a ≠ 188 → a ≠ 200188 → I' a = I a) ∧ taE 188 (1 + j) (1 + j) I' from k)
      obtain ⟨o1, o2, o3, o4⟩ := rdV_ok hv hn hm
      obtain ⟨T, t1, t2, t3, t4⟩ := ta_row (by omega) k5
      have hs' : LwS B0 I' := h.fr (fun a ha => k4 a (by omega) (by omega))
      have := lw_123 (V := rdV 187 I) (T := T) (B := B0) (nn := 189) (bc := bc - 1) (bs := bs - 17) (x3 := x3) (b := b') (L := L') hs' o1 (by omega) t2 rfl rfl (vaP_fr (k4 187 (by omega) (by omega)) o2) t3 t4 ⟨by omega, by omega⟩ (by omega) (by omega) hK
      rw [o3] at this
      exact this
  | succ f ih =>
    intro p hp5 hp b I L hs h hv
    have hnp : p < n := by split at hp <;> omega
    have hp9 : p < 9 := by split at hp <;> omega
    refine v_L_law_57 ?_
    simp (disch := first | omega | assumption) only [n_lit, n_gLt, n_gLe, n_gEq, n_gEq2, n_gLe2, n_gLt2, n_m1, n_add, n_mul, n_lt, n_le, n_eq, n_cl, n_in, n_rem, n_mlt, n_mle, n_ltm, n_lem, n_eqm, n_meq, n_bit, n_shl, n_b0, n_b1, n_sub, n_inT, nT, nF, lT, lF, eT, eF, not_false_eq_true, not_true_eq_false, sI_at, sI_c, sI_j, aI_at, aI_c, sL_at, sL_c, sL_j, true_and, and_true, not_true_eq_false, not_false_eq_true, forall_const, true_implies, false_implies, implies_true, if_true, if_false, ite_true, ite_false, Bool.not_eq_true, Bool.not_eq_false, Bool.true_eq_false, Bool.false_eq_true, false_and, and_false, or_true, true_or, false_or, or_false]
    refine c_Lcell hs hL (by omega) (fun v => ?_)
    obtain ⟨j, hj, ej⟩ := and_7 (v >>> (nI (2 * p) &&& nI 31))
    have er : nI j - nI j / nI 6 * nI 6 = nI (j % 6) := n_rem (by omega) (by omega) (by omega)
    have m6 : j % 6 < 6 := Nat.mod_lt _ (by omega)
    simp (disch := first | omega | assumption) only [n_lit, n_gLt, n_gLe, n_gEq, n_gEq2, n_gLe2, n_gLt2, n_m1, n_add, n_mul, n_lt, n_le, n_eq, n_cl, n_in, n_rem, n_mlt, n_mle, n_ltm, n_lem, n_eqm, n_meq, n_bit, n_shl, n_b0, n_b1, n_sub, n_inT, nT, nF, lT, lF, eT, eF, not_false_eq_true, not_true_eq_false, sI_at, sI_c, sI_j, aI_at, aI_c, sL_at, sL_c, sL_j, true_and, and_true, not_true_eq_false, not_false_eq_true, forall_const, true_implies, false_implies, implies_true, if_true, if_false, ite_true, ite_false, Bool.not_eq_true, Bool.not_eq_false, Bool.true_eq_false, Bool.false_eq_true, false_and, and_false, or_true, true_or, false_or, or_false, ej, er]
    refine ih (p + 1) (by omega) (by omega) b _ L ?_ (h.fr (fun a ha => by rw [sI_c (by omega), sI_c (by omega)])) (vaE_set hv hn.2 (by omega) (by omega))
    rw [sI_c (by omega), sI_c (by omega)]
    exact hs
/-- the body: a script's first cell, the village drawn -/
theorem lw_49 (hL : Ls ≤ 260) (hn : 1 ≤ n ∧ n ≤ 8) {m0 : Nat} (hm : m0 ≤ 12) {b : Bool} {I : MI} {L : ML} (hbc : 7 ≤ bc) (hbs : 293 ≤ bs) (hs : I 100001 0 = nI Ls) (h : LwS B0 I) (hK : ∀ b' n' I' L', K (nI 1) b' n' I' L') : NW 187 bc bs m_L_law 49 [vr 3 0, vr 21 0, vr 164 186, vi x3, vi (nI n), un, un, un, un, un, un, un, un, un, un] [vi (nI m0), vi (nI n), vi (nI 1), vr 3 0] b I L (nwI K) := by
  refine NW_call (z := 1) (u := 100) (hf := rfl) (hr := rfl) (by omega) (by omega) (c_Ldraw (K := fun k c b' n' I' L' => k = 900 ∧ c = 187 ∧ n' = 188 ∧ ∃ m, m ≤ 12 ∧ (∀ a, a ≠ 187 → I' a = I a) ∧ vaE 187 n m n m I') hs hL hn hm (by omega) (Nat.le_refl _) (Nat.le_refl _) (fun b' I' L' m g1 f1 f2 => ⟨rfl, rfl, rfl, m, g1, f1, f2⟩)) (fun v b' m' I' L' k => ?_)
  rcases v with v | v | v
  · exact k.elim
  · exact k.elim
  · obtain ⟨v1, v2⟩ := v
    obtain ⟨rfl, rfl, rfl, m, k1, k4, k5⟩ := (show v1 = 900 ∧ v2 = 187 ∧ m' = 188 ∧ ∃ m, m ≤ 12 ∧ (∀ a, a ≠ 187 → I' a = I a) ∧ vaE 187 n m n m I' from k)
    refine v_L_law_52 (kn := 187) ?_
    simp (disch := first | omega | assumption) only [n_lit, n_gLt, n_gLe, n_gEq, n_gEq2, n_gLe2, n_gLt2, n_m1, n_add, n_mul, n_lt, n_le, n_eq, n_cl, n_in, n_rem, n_mlt, n_mle, n_ltm, n_lem, n_eqm, n_meq, n_bit, n_shl, n_b0, n_b1, n_sub, n_inT, nT, nF, lT, lF, eT, eF, not_false_eq_true, not_true_eq_false, sI_at, sI_c, sI_j, aI_at, aI_c, sL_at, sL_c, sL_j, true_and, and_true, not_true_eq_false, not_false_eq_true, forall_const, true_implies, false_implies, implies_true, if_true, if_false, ite_true, ite_false, Bool.not_eq_true, Bool.not_eq_false, Bool.true_eq_false, Bool.false_eq_true, false_and, and_false, or_true, true_or, false_or, or_false]
    refine lw_57 hL hn k1 (by omega) (by omega) hK ((if n < 5 then 5 else n) - 5) 5 (Nat.le_refl _) ?_ b' I' L' ?_ (h.fr (fun a ha => k4 a (by omega))) k5
    · split <;> omega
    · rw [k4 _ (by omega)]
      exact hs
end LX
theorem lwS_ini {I : MI} (h : ∀ a b, a < N1 → I a b = iniV a b) : LwS B0 I := by
  obtain ⟨h1, h2⟩ := bk_ini h
  refine ⟨h1, h2, rfl, ?_, ?_⟩
  · exact (h 186 5 (by decide)).trans (by decide)
  · exact (h 186 6 (by decide)).trans (by decide)
theorem body_ok : BodyOK := by
  intro Ls xs I L hL hI hx h0
  have hs : I 100001 0 = nI Ls := hI
  have h := lwS_ini h0
  refine v_L_law_13 (K := fun r _ _ _ _ => r = 1) ?_
  by_cases c : Ls ≤ 0
  · obtain ⟨j, hj, ej⟩ := and_7 (nI 11603)
    obtain ⟨k, hk, ek⟩ := and_15 (nI 11603 >>> (nI 3 &&& nI 31))
    have er : nI k - nI k / nI 13 * nI 13 = nI (k % 13) := n_rem (by omega) (by omega) (by omega)
    have m13 : k % 13 < 13 := Nat.mod_lt _ (by omega)
    simp (disch := first | omega | assumption) only [n_lit, n_gLt, n_gLe, n_gEq, n_gEq2, n_gLe2, n_gLt2, n_m1, n_add, n_mul, n_lt, n_le, n_eq, n_cl, n_in, n_rem, n_mlt, n_mle, n_ltm, n_lem, n_eqm, n_meq, n_bit, n_shl, n_b0, n_b1, n_sub, n_inT, nT, nF, lT, lF, eT, eF, not_false_eq_true, not_true_eq_false, sI_at, sI_c, sI_j, aI_at, aI_c, sL_at, sL_c, sL_j, true_and, and_true, not_true_eq_false, not_false_eq_true, forall_const, true_implies, false_implies, implies_true, if_true, if_false, ite_true, ite_false, Bool.not_eq_true, Bool.not_eq_false, Bool.true_eq_false, Bool.false_eq_true, false_and, and_false, or_true, true_or, false_or, or_false, hs, ej, ek, er]
    exact lw_49 hL ⟨by omega, by omega⟩ (by omega) (by omega) (by omega) hs h (fun _ _ _ _ => rfl)
  · obtain ⟨j, hj, ej⟩ := and_7 (I 100000 0)
    obtain ⟨k, hk, ek⟩ := and_15 (I 100000 0 >>> (nI 3 &&& nI 31))
    have er : nI k - nI k / nI 13 * nI 13 = nI (k % 13) := n_rem (by omega) (by omega) (by omega)
    have m13 : k % 13 < 13 := Nat.mod_lt _ (by omega)
    simp (disch := first | omega | assumption) only [n_lit, n_gLt, n_gLe, n_gEq, n_gEq2, n_gLe2, n_gLt2, n_m1, n_add, n_mul, n_lt, n_le, n_eq, n_cl, n_in, n_rem, n_mlt, n_mle, n_ltm, n_lem, n_eqm, n_meq, n_bit, n_shl, n_b0, n_b1, n_sub, n_inT, nT, nF, lT, lF, eT, eF, not_false_eq_true, not_true_eq_false, sI_at, sI_c, sI_j, aI_at, aI_c, sL_at, sL_c, sL_j, true_and, and_true, not_true_eq_false, not_false_eq_true, forall_const, true_implies, false_implies, implies_true, if_true, if_false, ite_true, ite_false, Bool.not_eq_true, Bool.not_eq_false, Bool.true_eq_false, Bool.false_eq_true, false_and, and_false, or_true, true_or, false_or, or_false, hs, ej, ek, er]
    exact lw_49 hL ⟨by omega, by omega⟩ (by omega) (by omega) (by omega) hs h (fun _ _ _ _ => rfl)
theorem lawOK : LawOK := law_ok body_ok
