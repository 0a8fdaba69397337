/-! WHAT-IFS: often -/
def ofX (day p m : Nat) : Wi := dnX (fun q => decide (q = p)) day (day + m - 1)
def ofB (B : Bk) (a1 a2 : Int32) (day p m : Nat) : Bool := cleanB (B.wx a1 a2 (ofX day p m))
theorem c_often {B : Bk} {a1 a2 : Int32} {day p : Nat} {I : MI} {L : ML} (ok : B.ok) (g2 : tkB B a1 a2 = true) (hd : day ≤ 90) (hp : p < 16) (l0 : lif B a1 a2 wi0 I L) {b : Bool} {K : Int32 → Bool → MI → ML → Prop} (hK : ∀ I' L', (∀ a, a < 154 ∨ 186 ≤ a → I' a = I a) → K (optI (fstN (ofB B a1 a2 day p) 9 1)) b I' L') : CI m_Search_fewestDenials [vr 15 181, vi (nI day), vi (nI p)] b I L K := by
  have W0 : WL (B.wd a1 a2) I L := lif_W ok g2 wi0_ok l0
  have loop : ∀ n i, i + n = 10 → 1 ≤ i → ∀ (f : Nat → Bool) (d t : Nat) (I1 : MI) (L1 : ML), (∀ a, a < 154 ∨ 186 ≤ a → I1 a = I a) → lif B a1 a2 (dnX f d t) I1 L1 → (∀ e, e < day → rowC (B.wd a1 a2) e I1 L1) → (∀ I' L', (∀ a, a < 154 ∨ 186 ≤ a → I' a = I a) → K (optI (fstN (ofB B a1 a2 day p) n i)) b I' L') → SW m_Search_fewestDenials 14 [vr 15 181, vi (nI day), vi (nI p), vi (nI i)] [] b I1 L1 (kI K) := by
    intro n
    induction n with
    | zero =>
      intro i hi h1 f d t I1 L1 f1 l1 r1 kk
      exact v_Search_fewestDenials_14 ⟨fun _ => kk I1 L1 f1, fun q => absurd (by rw [show (9 : Int32) = nI 9 from rfl, n_lt (by omega) (by omega)]; omega) q⟩
    | succ n ih =>
      intro i hi h1 f d t I1 L1 f1 l1 r1 kk
      unfold fstN at kk
      refine v_Search_fewestDenials_14 ⟨fun q => absurd q (by rw [show (9 : Int32) = nI 9 from rfl, n_lt (by omega) (by omega)]; omega), fun _ => v_Given_deny_0 ?_⟩
      rw [show (1 : Int32) <<< (nI p &&& 31) = nI (2 ^ p) from n_shl (by omega), show nI i + (1 : Int32) = nI (i + 1) from n_add i 1, show nI day + nI i - (1 : Int32) = nI (day + i - 1) by rw [n_add]; exact n_sub (b := 1) (by omega)]
      have l2 : lif B a1 a2 (ofX day p i) (sI (sI (sI I1 161 8 (nI (2 ^ p))) 161 9 (nI day)) 161 10 (nI (day + i - 1))) L1 := lif_dn (g := fun q => decide (q = p)) (df := day) (dt := day + i - 1) (m := nI (2 ^ p)) (fun q hq => by
        rw [b_2p hq]
        exact decide_eq_decide.mpr ⟨fun z => z.symm, fun z => z.symm⟩) l1
      have W2 := lif_W ok g2 (x := ofX day p i) (dnX_ok (by omega) (by omega)) l2
      have la := laW_2 (t := B.tlOf a2) (x := ofX day p i) (anyN_iff.mpr ⟨p, by omega, decide_eq_true rfl⟩)
      have la : day + i - 1 ≤ (B.wx a1 a2 (ofX day p i)).la := la
      refine c_lc (s0 := day) W2 (by omega) (fun e he => (dn_rows he).mpr (rowC_fr (fun a q1 q2 => by rw [sI_c (by omega), sI_c (by omega), sI_c (by omega)]) (fun _ _ => rfl) (r1 e he))) (by omega) (fun I3 L3 f3 m3 rows3 => ?_)
      have fr : ∀ a, a < 154 ∨ 186 ≤ a → I3 a = I a := fun a ha => by rw [f3 a (by omega), sI_c (by omega), sI_c (by omega), sI_c (by omega), f1 a ha]
      have l3 := lif_fr (I' := I3) (L' := L3) (fun a q1 q2 => f3 a (by omega)) (fun a ha => m3 a (by omega) (by omega) (by omega)) l2
      cases c : ofB B a1 a2 day p i with
      | true =>
        have e : cleanB (B.wx a1 a2 (ofX day p i)) = true := c
        have kk := kk I3 L3 fr
        rw [if_pos c] at kk
        rw [e]
        exact ⟨fun q => absurd q (by decide), fun _ => kk⟩
      | false =>
        have e : cleanB (B.wx a1 a2 (ofX day p i)) = false := c
        rw [if_neg (by rw [c]; exact Bool.false_ne_true)] at kk
        rw [e]
        exact ⟨fun _ => ih (i + 1) (by omega) (by omega) _ _ _ I3 L3 fr l3 (fun e he => (dn_rows he).mp (rows3 e he)) kk, fun q => absurd rfl q⟩
  refine v_Search_fewestDenials_0 (c_days (d := day) W0 (by omega) (fun I2 L2 f2 m2 r2 => ?_))
  exact loop 9 1 (by omega) (by omega) (fun _ => false) 0 0 I2 L2 (fun a ha => f2 a (by omega)) (lif_fr (fun a q1 q2 => f2 a (by omega)) (fun a ha => m2 a (by omega) (by omega) (by omega)) l0) r2 hK
theorem cm_often {B : Bk} {a1 a2 : Int32} {day p o : Nat} {I : MI} {L : ML} (hd : day ≤ 90) (hp : p < 16) (W : WM (B.vl a1.toNatClampNeg) (B.tlOf a2) wi0 o (B.wd a1 a2) I L) {b : Bool} {K : Int32 → Bool → MI → ML → Prop} (hK : ∀ I' L', mfr I I' → K (optI (fstN (ofB B a1 a2 day p) 9 1)) b I' L') : SW m_M_often 48 [vr 22 186, un, un, un, un] [] b (sI (sI (sI I 186 14 (nI day)) 186 13 (nI (2 ^ p))) 186 15 (nI 1)) L (kI K) := by
  have loop : ∀ n i, i + n = 10 → 1 ≤ i → ∀ (f : Nat → Bool) (d t : Nat) (I0 I1 : MI) (L1 : ML), mfr I I0 → WM (B.vl a1.toNatClampNeg) (B.tlOf a2) (dnX f d t) o (B.wx a1 a2 (dnX f d t)) I0 L1 → (∀ a, a ≠ 186 → I1 a = I0 a) → (∀ j, j ≠ 13 → j ≠ 14 → j ≠ 15 → I1 186 j = I0 186 j) → I1 186 13 = nI (2 ^ p) → I1 186 14 = nI day → I1 186 15 = nI i → (∀ I' L', mfr I I' → K (optI (fstN (ofB B a1 a2 day p) n i)) b I' L') → SW m_M_often 48 [vr 22 186, un, un, un, un] [] b I1 L1 (kI K) := by
    intro n
    induction n with
    | zero =>
      intro i hi h1 f d t I0 I1 L1 f0 W0 g1 g2 e13 e14 e15 kk
      exact v_M_often_48 ⟨fun _ => kk I1 L1 (fun a ha => by rw [g1 a (by omega), f0 a ha]), fun q => absurd (by rw [e15, show (9 : Int32) = nI 9 from rfl, n_lt (by omega) (by omega)]; omega) q⟩
    | succ n ih =>
      intro i hi h1 f d t I0 I1 L1 f0 W0 g1 g2 e13 e14 e15 kk
      unfold fstN at kk
      have W2 := WM_dn (g := fun q => decide (q = p)) (df := day) (dt := day + i - 1) (I' := I1) (L' := L1) (fun q hq => by
        rw [e13, b_2p hq]
        exact decide_eq_decide.mpr ⟨fun z => z.symm, fun z => z.symm⟩) (fun j _ q1 q2 q3 => g2 j q1 q2 q3) e14 ⟨i, by omega, by omega, e15, by omega⟩ (g1 187 (by omega)) rfl (by omega) (by omega) W0
      have W2 : WM (B.vl a1.toNatClampNeg) (B.tlOf a2) (ofX day p i) o (B.wx a1 a2 (ofX day p i)) I1 L1 := W2
      refine v_M_often_48 ⟨fun q => absurd q (by rw [e15, show (9 : Int32) = nI 9 from rfl, n_lt (by omega) (by omega)]; omega), fun _ => cm_isClean W2 (fun I3 L3 f3 l3 => ?_)⟩
      have W3 := W2.frM f3 (l3 186 (by decide))
      have fr : mfr I I3 := fun a ha => by rw [f3.1 a (by omega), g1 a (by omega), f0 a ha]
      have k15 : I3 186 15 = nI i := (f3.2 15 (by omega) (by omega)).trans e15
      cases c : ofB B a1 a2 day p i with
      | true =>
        have e : cleanB (B.wx a1 a2 (ofX day p i)) = true := c
        have kk := kk I3 L3 fr
        rw [if_pos c] at kk
        rw [e]
        refine ⟨fun q => absurd q (by decide), fun _ => ?_⟩
        show K (I3 186 15) b I3 L3
        rw [k15]
        exact kk
      | false =>
        have e : cleanB (B.wx a1 a2 (ofX day p i)) = false := c
        rw [if_neg (by rw [c]; exact Bool.false_ne_true)] at kk
        rw [e]
        refine ⟨fun _ => ?_, fun q => absurd rfl q⟩
        refine ih (i + 1) (by omega) (by omega) _ _ _ I3 _ L3 fr W3 (fun a ha => sI_c (by omega)) (fun j _ _ q => sI_j q) ?_ ?_ ?_ kk
        · rw [sI_j (by omega), f3.2 13 (by omega) (by omega)]
          exact e13
        · rw [sI_j (by omega), f3.2 14 (by omega) (by omega)]
          exact e14
        · rw [sI_at, k15]
          exact n_add i 1
  refine loop 9 1 (by omega) (by omega) (fun _ => false) 0 0 I _ L (fun _ _ => rfl) W (fun a ha => ?_) (fun j q1 q2 q3 => ?_) ?_ ?_ (sI_at _ _ _ _) hK
  · rw [sI_c (by omega), sI_c (by omega), sI_c (by omega)]
  · rw [sI_j (by omega), sI_j (by omega), sI_j (by omega)]
  · rw [sI_j (by omega), sI_at]
  · rw [sI_j (by omega), sI_j (by omega), sI_at]
theorem op_often : H_often := by
  intro a1 a2 a3 a4
  refine Op2.q (fun B => if (inR a3 91 && (hpB B a1 a4 && tkB B a1 a2)) = true then optI (fstN (ofB B a1 a2 a3.toNatClampNeg a4.toNatClampNeg) 9 1) else nM) (fun B I b L K ok hc k => ?_) (fun B I b L K ok hm k => ?_)
  · refine v_S_often_0 (c_onDay (n := 90) (by decide) (fun g1 => ?_) (fun g1 => ?_))
    · obtain ⟨d, hd, rfl⟩ := (inR_iff (by decide)).mp g1
      simp (disch := first | omega | assumption) only [n_lit, n_gLt, n_gLe, n_gEq, n_gEq2, n_gLe2, n_gLt2, n_m1, n_add, n_mul, n_lt, n_le, n_eq, n_cl, n_in, n_rem, n_mlt, n_mle, n_ltm, n_lem, n_eqm, n_meq, n_bit, n_shl, n_b0, n_b1, n_sub, n_inT, nT, nF, lT, lF, eT, eF, not_false_eq_true, not_true_eq_false, sI_at, sI_c, sI_j, aI_at, aI_c, sL_at, sL_c, sL_j, true_and, and_true, not_true_eq_false, not_false_eq_true, forall_const, true_implies, false_implies, implies_true, if_true, if_false, ite_true, ite_false, Bool.not_eq_true, Bool.not_eq_false, Bool.true_eq_false, Bool.false_eq_true, false_and, and_false, or_true, true_or, false_or, or_false]
      refine c_hasPerson ok hc (fun g3 => ?_) (fun g3 => ?_)
      · simp (disch := first | omega | assumption) only [n_lit, n_gLt, n_gLe, n_gEq, n_gEq2, n_gLe2, n_gLt2, n_m1, n_add, n_mul, n_lt, n_le, n_eq, n_cl, n_in, n_rem, n_mlt, n_mle, n_ltm, n_lem, n_eqm, n_meq, n_bit, n_shl, n_b0, n_b1, n_sub, n_inT, nT, nF, lT, lF, eT, eF, not_false_eq_true, not_true_eq_false, sI_at, sI_c, sI_j, aI_at, aI_c, sL_at, sL_c, sL_j, true_and, and_true, not_true_eq_false, not_false_eq_true, forall_const, true_implies, false_implies, implies_true, if_true, if_false, ite_true, ite_false, Bool.not_eq_true, Bool.not_eq_false, Bool.true_eq_false, Bool.false_eq_true, false_and, and_false, or_true, true_or, false_or, or_false]
        refine c_takeW ok hc (fun g2 I1 L1 f1 W1 l0 => ?_) (fun g2 => ?_)
        · have hn := W1.vil.2.1.2
          have g4 := hp_tk (a3 := a4) ok g2
          rw [g3] at g4
          obtain ⟨p, hp, rfl⟩ := (inR_iff (by omega)).mp g4.symm
          simp (disch := first | omega | assumption) only [n_lit, n_gLt, n_gLe, n_gEq, n_gEq2, n_gLe2, n_gLt2, n_m1, n_add, n_mul, n_lt, n_le, n_eq, n_cl, n_in, n_rem, n_mlt, n_mle, n_ltm, n_lem, n_eqm, n_meq, n_bit, n_shl, n_b0, n_b1, n_sub, n_inT, nT, nF, lT, lF, eT, eF, not_false_eq_true, not_true_eq_false, sI_at, sI_c, sI_j, aI_at, aI_c, sL_at, sL_c, sL_j, true_and, and_true, not_true_eq_false, not_false_eq_true, forall_const, true_implies, false_implies, implies_true, if_true, if_false, ite_true, ite_false, Bool.not_eq_true, Bool.not_eq_false, Bool.true_eq_false, Bool.false_eq_true, false_and, and_false, or_true, true_or, false_or, or_false]
          refine c_often ok g2 (by omega) (by omega) l0 (fun I2 L2 f2 => ?_)
          have kk := k b I2 L2 (fun a ha => (f2 a (by omega)).trans (f1 a (by omega)))
          rw [g1, g2, g3, n_cl (by omega), n_cl (by omega), Bool.and_self, Bool.and_self, if_pos rfl] at kk
          exact kk
        · have kk := k b I L (fun _ _ => rfl)
          rw [g2, Bool.and_false, Bool.and_false] at kk
          simp (disch := first | omega | assumption) only [n_lit, n_gLt, n_gLe, n_gEq, n_gEq2, n_gLe2, n_gLt2, n_m1, n_add, n_mul, n_lt, n_le, n_eq, n_cl, n_in, n_rem, n_mlt, n_mle, n_ltm, n_lem, n_eqm, n_meq, n_bit, n_shl, n_b0, n_b1, n_sub, n_inT, nT, nF, lT, lF, eT, eF, not_false_eq_true, not_true_eq_false, sI_at, sI_c, sI_j, aI_at, aI_c, sL_at, sL_c, sL_j, true_and, and_true, not_true_eq_false, not_false_eq_true, forall_const, true_implies, false_implies, implies_true, if_true, if_false, ite_true, ite_false, Bool.not_eq_true, Bool.not_eq_false, Bool.true_eq_false, Bool.false_eq_true, false_and, and_false, or_true, true_or, false_or, or_false] at kk
          simp (disch := first | omega | assumption) only [n_lit, n_gLt, n_gLe, n_gEq, n_gEq2, n_gLe2, n_gLt2, n_m1, n_add, n_mul, n_lt, n_le, n_eq, n_cl, n_in, n_rem, n_mlt, n_mle, n_ltm, n_lem, n_eqm, n_meq, n_bit, n_shl, n_b0, n_b1, n_sub, n_inT, nT, nF, lT, lF, eT, eF, not_false_eq_true, not_true_eq_false, sI_at, sI_c, sI_j, aI_at, aI_c, sL_at, sL_c, sL_j, true_and, and_true, not_true_eq_false, not_false_eq_true, forall_const, true_implies, false_implies, implies_true, if_true, if_false, ite_true, ite_false, Bool.not_eq_true, Bool.not_eq_false, Bool.true_eq_false, Bool.false_eq_true, false_and, and_false, or_true, true_or, false_or, or_false]
          exact kk
      · have kk := k b I L (fun _ _ => rfl)
        rw [g3, Bool.false_and, Bool.and_false] at kk
        simp (disch := first | omega | assumption) only [n_lit, n_gLt, n_gLe, n_gEq, n_gEq2, n_gLe2, n_gLt2, n_m1, n_add, n_mul, n_lt, n_le, n_eq, n_cl, n_in, n_rem, n_mlt, n_mle, n_ltm, n_lem, n_eqm, n_meq, n_bit, n_shl, n_b0, n_b1, n_sub, n_inT, nT, nF, lT, lF, eT, eF, not_false_eq_true, not_true_eq_false, sI_at, sI_c, sI_j, aI_at, aI_c, sL_at, sL_c, sL_j, true_and, and_true, not_true_eq_false, not_false_eq_true, forall_const, true_implies, false_implies, implies_true, if_true, if_false, ite_true, ite_false, Bool.not_eq_true, Bool.not_eq_false, Bool.true_eq_false, Bool.false_eq_true, false_and, and_false, or_true, true_or, false_or, or_false] at kk
        simp (disch := first | omega | assumption) only [n_lit, n_gLt, n_gLe, n_gEq, n_gEq2, n_gLe2, n_gLt2, n_m1, n_add, n_mul, n_lt, n_le, n_eq, n_cl, n_in, n_rem, n_mlt, n_mle, n_ltm, n_lem, n_eqm, n_meq, n_bit, n_shl, n_b0, n_b1, n_sub, n_inT, nT, nF, lT, lF, eT, eF, not_false_eq_true, not_true_eq_false, sI_at, sI_c, sI_j, aI_at, aI_c, sL_at, sL_c, sL_j, true_and, and_true, not_true_eq_false, not_false_eq_true, forall_const, true_implies, false_implies, implies_true, if_true, if_false, ite_true, ite_false, Bool.not_eq_true, Bool.not_eq_false, Bool.true_eq_false, Bool.false_eq_true, false_and, and_false, or_true, true_or, false_or, or_false]
        exact kk
    · have kk := k b I L (fun _ _ => rfl)
      rw [g1, Bool.false_and] at kk
      simp (disch := first | omega | assumption) only [n_lit, n_gLt, n_gLe, n_gEq, n_gEq2, n_gLe2, n_gLt2, n_m1, n_add, n_mul, n_lt, n_le, n_eq, n_cl, n_in, n_rem, n_mlt, n_mle, n_ltm, n_lem, n_eqm, n_meq, n_bit, n_shl, n_b0, n_b1, n_sub, n_inT, nT, nF, lT, lF, eT, eF, not_false_eq_true, not_true_eq_false, sI_at, sI_c, sI_j, aI_at, aI_c, sL_at, sL_c, sL_j, true_and, and_true, not_true_eq_false, not_false_eq_true, forall_const, true_implies, false_implies, implies_true, if_true, if_false, ite_true, ite_false, Bool.not_eq_true, Bool.not_eq_false, Bool.true_eq_false, Bool.false_eq_true, false_and, and_false, or_true, true_or, false_or, or_false] at kk
      simp (disch := first | omega | assumption) only [n_lit, n_gLt, n_gLe, n_gEq, n_gEq2, n_gLe2, n_gLt2, n_m1, n_add, n_mul, n_lt, n_le, n_eq, n_cl, n_in, n_rem, n_mlt, n_mle, n_ltm, n_lem, n_eqm, n_meq, n_bit, n_shl, n_b0, n_b1, n_sub, n_inT, nT, nF, lT, lF, eT, eF, not_false_eq_true, not_true_eq_false, sI_at, sI_c, sI_j, aI_at, aI_c, sL_at, sL_c, sL_j, true_and, and_true, not_true_eq_false, not_false_eq_true, forall_const, true_implies, false_implies, implies_true, if_true, if_false, ite_true, ite_false, Bool.not_eq_true, Bool.not_eq_false, Bool.true_eq_false, Bool.false_eq_true, false_and, and_false, or_true, true_or, false_or, or_false]
      exact kk
  · refine v_M_often_0 (cm_isIn0 (n := 90) (by decide) (fun g1 => ?_) (fun g1 => ?_))
    · obtain ⟨d, hd, rfl⟩ := (inR_iff (by decide)).mp g1
      simp (disch := first | omega | assumption) only [n_lit, n_gLt, n_gLe, n_gEq, n_gEq2, n_gLe2, n_gLt2, n_m1, n_add, n_mul, n_lt, n_le, n_eq, n_cl, n_in, n_rem, n_mlt, n_mle, n_ltm, n_lem, n_eqm, n_meq, n_bit, n_shl, n_b0, n_b1, n_sub, n_inT, nT, nF, lT, lF, eT, eF, not_false_eq_true, not_true_eq_false, sI_at, sI_c, sI_j, aI_at, aI_c, sL_at, sL_c, sL_j, true_and, and_true, not_true_eq_false, not_false_eq_true, forall_const, true_implies, false_implies, implies_true, if_true, if_false, ite_true, ite_false, Bool.not_eq_true, Bool.not_eq_false, Bool.true_eq_false, Bool.false_eq_true, false_and, and_false, or_true, true_or, false_or, or_false]
      refine cm_bothW ok hm (fun g2 I1 L1 o f1 W1 => ?_) (fun g2 I1 f1 => ?_)
      · have hn := W1.1.2.1.1.2
        simp (disch := first | omega | assumption) only [n_lit, n_gLt, n_gLe, n_gEq, n_gEq2, n_gLe2, n_gLt2, n_m1, n_add, n_mul, n_lt, n_le, n_eq, n_cl, n_in, n_rem, n_mlt, n_mle, n_ltm, n_lem, n_eqm, n_meq, n_bit, n_shl, n_b0, n_b1, n_sub, n_inT, nT, nF, lT, lF, eT, eF, not_false_eq_true, not_true_eq_false, sI_at, sI_c, sI_j, aI_at, aI_c, sL_at, sL_c, sL_j, true_and, and_true, not_true_eq_false, not_false_eq_true, forall_const, true_implies, false_implies, implies_true, if_true, if_false, ite_true, ite_false, Bool.not_eq_true, Bool.not_eq_false, Bool.true_eq_false, Bool.false_eq_true, false_and, and_false, or_true, true_or, false_or, or_false]
        refine cm_isPerson W1 (fun g4 => ?_) (fun g4 => ?_)
        · have g3 := (hp_tk (a3 := a4) ok g2).trans g4
          obtain ⟨p, hp, rfl⟩ := (inR_iff (by omega)).mp g4
          simp (disch := first | omega | assumption) only [n_lit, n_gLt, n_gLe, n_gEq, n_gEq2, n_gLe2, n_gLt2, n_m1, n_add, n_mul, n_lt, n_le, n_eq, n_cl, n_in, n_rem, n_mlt, n_mle, n_ltm, n_lem, n_eqm, n_meq, n_bit, n_shl, n_b0, n_b1, n_sub, n_inT, nT, nF, lT, lF, eT, eF, not_false_eq_true, not_true_eq_false, sI_at, sI_c, sI_j, aI_at, aI_c, sL_at, sL_c, sL_j, true_and, and_true, not_true_eq_false, not_false_eq_true, forall_const, true_implies, false_implies, implies_true, if_true, if_false, ite_true, ite_false, Bool.not_eq_true, Bool.not_eq_false, Bool.true_eq_false, Bool.false_eq_true, false_and, and_false, or_true, true_or, false_or, or_false]
          refine cm_often (by omega) (by omega) W1 (fun I2 L2 f2 => ?_)
          have kk := k b I2 L2 (fun a ha => (f2 a (by omega)).trans (f1 a (by omega)))
          rw [g1, g2, g3, n_cl (by omega), n_cl (by omega), Bool.and_self, Bool.and_self, if_pos rfl] at kk
          exact kk
        · have g3 := (hp_tk (a3 := a4) ok g2).trans g4
          have kk := k b I1 L1 (fun a ha => f1 a (by omega))
          rw [g3, Bool.false_and, Bool.and_false] at kk
          simp (disch := first | omega | assumption) only [n_lit, n_gLt, n_gLe, n_gEq, n_gEq2, n_gLe2, n_gLt2, n_m1, n_add, n_mul, n_lt, n_le, n_eq, n_cl, n_in, n_rem, n_mlt, n_mle, n_ltm, n_lem, n_eqm, n_meq, n_bit, n_shl, n_b0, n_b1, n_sub, n_inT, nT, nF, lT, lF, eT, eF, not_false_eq_true, not_true_eq_false, sI_at, sI_c, sI_j, aI_at, aI_c, sL_at, sL_c, sL_j, true_and, and_true, not_true_eq_false, not_false_eq_true, forall_const, true_implies, false_implies, implies_true, if_true, if_false, ite_true, ite_false, Bool.not_eq_true, Bool.not_eq_false, Bool.true_eq_false, Bool.false_eq_true, false_and, and_false, or_true, true_or, false_or, or_false] at kk
          simp (disch := first | omega | assumption) only [n_lit, n_gLt, n_gLe, n_gEq, n_gEq2, n_gLe2, n_gLt2, n_m1, n_add, n_mul, n_lt, n_le, n_eq, n_cl, n_in, n_rem, n_mlt, n_mle, n_ltm, n_lem, n_eqm, n_meq, n_bit, n_shl, n_b0, n_b1, n_sub, n_inT, nT, nF, lT, lF, eT, eF, not_false_eq_true, not_true_eq_false, sI_at, sI_c, sI_j, aI_at, aI_c, sL_at, sL_c, sL_j, true_and, and_true, not_true_eq_false, not_false_eq_true, forall_const, true_implies, false_implies, implies_true, if_true, if_false, ite_true, ite_false, Bool.not_eq_true, Bool.not_eq_false, Bool.true_eq_false, Bool.false_eq_true, false_and, and_false, or_true, true_or, false_or, or_false]
          exact kk
      · have kk := k b I1 L (fun a ha => f1 a (by omega))
        rw [g2, Bool.and_false, Bool.and_false] at kk
        simp (disch := first | omega | assumption) only [n_lit, n_gLt, n_gLe, n_gEq, n_gEq2, n_gLe2, n_gLt2, n_m1, n_add, n_mul, n_lt, n_le, n_eq, n_cl, n_in, n_rem, n_mlt, n_mle, n_ltm, n_lem, n_eqm, n_meq, n_bit, n_shl, n_b0, n_b1, n_sub, n_inT, nT, nF, lT, lF, eT, eF, not_false_eq_true, not_true_eq_false, sI_at, sI_c, sI_j, aI_at, aI_c, sL_at, sL_c, sL_j, true_and, and_true, not_true_eq_false, not_false_eq_true, forall_const, true_implies, false_implies, implies_true, if_true, if_false, ite_true, ite_false, Bool.not_eq_true, Bool.not_eq_false, Bool.true_eq_false, Bool.false_eq_true, false_and, and_false, or_true, true_or, false_or, or_false] at kk
        simp (disch := first | omega | assumption) only [n_lit, n_gLt, n_gLe, n_gEq, n_gEq2, n_gLe2, n_gLt2, n_m1, n_add, n_mul, n_lt, n_le, n_eq, n_cl, n_in, n_rem, n_mlt, n_mle, n_ltm, n_lem, n_eqm, n_meq, n_bit, n_shl, n_b0, n_b1, n_sub, n_inT, nT, nF, lT, lF, eT, eF, not_false_eq_true, not_true_eq_false, sI_at, sI_c, sI_j, aI_at, aI_c, sL_at, sL_c, sL_j, true_and, and_true, not_true_eq_false, not_false_eq_true, forall_const, true_implies, false_implies, implies_true, if_true, if_false, ite_true, ite_false, Bool.not_eq_true, Bool.not_eq_false, Bool.true_eq_false, Bool.false_eq_true, false_and, and_false, or_true, true_or, false_or, or_false]
        exact kk
    · have kk := k b I L (fun _ _ => rfl)
      rw [g1, Bool.false_and] at kk
      simp (disch := first | omega | assumption) only [n_lit, n_gLt, n_gLe, n_gEq, n_gEq2, n_gLe2, n_gLt2, n_m1, n_add, n_mul, n_lt, n_le, n_eq, n_cl, n_in, n_rem, n_mlt, n_mle, n_ltm, n_lem, n_eqm, n_meq, n_bit, n_shl, n_b0, n_b1, n_sub, n_inT, nT, nF, lT, lF, eT, eF, not_false_eq_true, not_true_eq_false, sI_at, sI_c, sI_j, aI_at, aI_c, sL_at, sL_c, sL_j, true_and, and_true, not_true_eq_false, not_false_eq_true, forall_const, true_implies, false_implies, implies_true, if_true, if_false, ite_true, ite_false, Bool.not_eq_true, Bool.not_eq_false, Bool.true_eq_false, Bool.false_eq_true, false_and, and_false, or_true, true_or, false_or, or_false] at kk
      simp (disch := first | omega | assumption) only [n_lit, n_gLt, n_gLe, n_gEq, n_gEq2, n_gLe2, n_gLt2, n_m1, n_add, n_mul, n_lt, n_le, n_eq, n_cl, n_in, n_rem, n_mlt, n_mle, n_ltm, n_lem, n_eqm, n_meq, n_bit, n_shl, n_b0, n_b1, n_sub, n_inT, nT, nF, lT, lF, eT, eF, not_false_eq_true, not_true_eq_false, sI_at, sI_c, sI_j, aI_at, aI_c, sL_at, sL_c, sL_j, true_and, and_true, not_true_eq_false, not_false_eq_true, forall_const, true_implies, false_implies, implies_true, if_true, if_false, ite_true, ite_false, Bool.not_eq_true, Bool.not_eq_false, Bool.true_eq_false, Bool.false_eq_true, false_and, and_false, or_true, true_or, false_or, or_false]
      exact kk
