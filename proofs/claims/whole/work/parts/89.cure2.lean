/-! WHAT-IFS: cure, the reference; late -/
/-- what the reference leaves as it is, all questions through -/
def mfr (I I' : MI) : Prop := ∀ a, a < 186 ∨ a = 187 ∨ a = 188 ∨ a = 189 ∨ 202 ≤ a → I' a = I a
theorem mfr.trans {I I' I'' : MI} (h : mfr I I') (k : mfr I' I'') : mfr I I'' := fun a ha => (k a ha).trans (h a ha)
theorem mfr_186 {I : MI} {j : Nat} {m : Int32} : mfr I (sI I 186 j m) := fun a ha => sI_c (by omega)
theorem n_2p {n : Nat} (hn : n ≤ 16) : (1 : Int32) <<< (nI n &&& 31) = nI (2 ^ n) := n_shl (by omega)
theorem cm_cureBy {B : Bk} {a1 a2 : Int32} {f0 : Nat → Bool} {day k o d0 t0 : Nat} {I : MI} {L : ML} (hd : day ≤ 99) (hk : k ≤ 3) (W : WM (B.vl a1.toNatClampNeg) (B.tlOf a2) (dnX f0 d0 t0) o (B.wx a1 a2 (dnX f0 d0 t0)) I L) (e15 : I 186 15 = nI 1) {b : Bool} {K : Int32 → Bool → MI → ML → Prop} (hK : ∀ I' L' f d t, mfr I I' → WM (B.vl a1.toNatClampNeg) (B.tlOf a2) (dnX f d t) o (B.wx a1 a2 (dnX f d t)) I' L' → I' 186 15 = nI 1 → K (optI (szF (cuP B a1 a2 day) (B.wd a1 a2).v.n (k + 1) 0)) b I' L') : CI m_M_cureBy [vr 22 186, vi (nI day), vi (nI k)] b I L K := by
  have hn : (B.wd a1 a2).v.n ≤ 16 := W.1.2.1.1.2
  have h16 : 2 ^ (B.wd a1 a2).v.n ≤ 2 ^ 16 := Nat.pow_le_pow_right (by decide) hn
  have inner : ∀ lo, lo ≤ 3 → ∀ m i, i + m = 2 ^ (B.wd a1 a2).v.n → ∀ (f : Nat → Bool) (I1 : MI) (L1 : ML), mfr I I1 → WM (B.vl a1.toNatClampNeg) (B.tlOf a2) (dnX f day day) o (B.wx a1 a2 (dnX f day day)) I1 L1 → I1 186 14 = nI day → I1 186 15 = nI 1 → (∀ x, ((List.range' i m).filter (fun x => decide (cntB x.testBit (B.wd a1 a2).v.n = lo))).find? (cuP B a1 a2 day) = some x → ∀ I' L' f, mfr I I' → WM (B.vl a1.toNatClampNeg) (B.tlOf a2) (dnX f day day) o (B.wx a1 a2 (dnX f day day)) I' L' → I' 186 15 = nI 1 → K (nI x) b I' L') → (((List.range' i m).filter (fun x => decide (cntB x.testBit (B.wd a1 a2).v.n = lo))).find? (cuP B a1 a2 day) = none → ∀ I' L' f, mfr I I' → WM (B.vl a1.toNatClampNeg) (B.tlOf a2) (dnX f day day) o (B.wx a1 a2 (dnX f day day)) I' L' → I' 186 14 = nI day → I' 186 15 = nI 1 → SW m_M_cureBy 7 [vr 22 186, un, vi (nI k), vi (nI (lo + 1)), un] [] b I' L' (kI K)) → SW m_M_cureBy 15 [vr 22 186, un, vi (nI k), vi (nI lo), vi (nI i)] [] b I1 L1 (kI K) := by
    intro lo hlo m
    induction m with
    | zero =>
      intro i hi f I1 L1 f1 W1 e14 e15 _ hno
      refine v_M_cureBy_15 (cm_people W1 ⟨fun _ => ?_, fun q => absurd ?_ q⟩)
      · rw [show nI lo + (1 : Int32) = nI (lo + 1) from n_add lo 1]
        exact hno rfl I1 L1 f f1 W1 e14 e15
      · show (1 : Int32) <<< (nI (B.wd a1 a2).v.n &&& 31) ≤ nI i
        rw [n_2p hn, n_le (by omega) (by omega)]
        omega
    | succ m ih =>
      intro i hi f I1 L1 f1 W1 e14 e15 hyes hno
      rw [List.range'_succ, List.filter_cons] at hyes hno
      have nxt := fun f I1 L1 => ih (i + 1) (by omega) f I1 L1
      refine v_M_cureBy_15 (cm_people W1 ⟨fun q => absurd q ?_, fun _ => cm_bitsN hn (by omega) ?_⟩)
      · show ¬ (1 : Int32) <<< (nI (B.wd a1 a2).v.n &&& 31) ≤ nI i
        rw [n_2p hn, n_le (by omega) (by omega)]
        omega
      have hc := cntB_le i.testBit (B.wd a1 a2).v.n
      rw [show nI i + (1 : Int32) = nI (i + 1) from n_add i 1]
      rw [n_eq (by omega) (by omega)]
      refine ⟨fun c => ?_, fun c => ?_⟩
      · rw [if_pos (decide_eq_true c)] at hyes hno
        have W2 := WM_dn (g := i.testBit) (df := day) (dt := day) (I' := sI I1 186 13 (nI i)) (L' := L1) (fun p hp => by rw [sI_at]; exact bt_nI hp) (fun j _ q _ _ => sI_j q) (by rw [sI_j (by omega)]; exact e14) ⟨1, by omega, by omega, by rw [sI_j (by omega)]; exact e15, by omega⟩ (sI_c (by omega)) rfl (by omega) (by omega) W1
        have W2 : WM (B.vl a1.toNatClampNeg) (B.tlOf a2) (dnX i.testBit day day) o (B.wx a1 a2 (dnX i.testBit day day)) (sI I1 186 13 (nI i)) L1 := W2
        refine cm_isClean W2 (fun I3 L3 f3 l3 => ?_)
        have W3 := W2.frM f3 (l3 186 (by decide))
        have fr : mfr I I3 := f1.trans (fun a ha => by rw [f3.1 a (by omega), sI_c (by omega)])
        have g14 : I3 186 14 = nI day := by rw [f3.2 14 (by omega) (by omega), sI_j (by omega)]; exact e14
        have g15 : I3 186 15 = nI 1 := by rw [f3.2 15 (by omega) (by omega), sI_j (by omega)]; exact e15
        cases cc : cuP B a1 a2 day i with
        | true =>
          have e : cleanB (B.wx a1 a2 (dnX i.testBit day day)) = true := cc
          rw [e]
          exact ⟨fun q => absurd q (by decide), fun _ => hyes i (List.find?_cons_of_pos cc) I3 L3 _ fr W3 g15⟩
        | false =>
          have e : cleanB (B.wx a1 a2 (dnX i.testBit day day)) = false := cc
          rw [e]
          rw [List.find?_cons_of_neg (by rw [cc]; exact Bool.false_ne_true)] at hyes hno
          exact ⟨fun _ => nxt _ I3 L3 fr W3 g14 g15 hyes hno, fun q => absurd rfl q⟩
      · rw [if_neg (by rw [decide_eq_false c]; exact Bool.false_ne_true)] at hyes hno
        exact nxt _ I1 L1 f1 W1 e14 e15 hyes hno
  have outer : ∀ c lo, c + lo = k + 1 → ∀ (f : Nat → Bool) (I1 : MI) (L1 : ML), mfr I I1 → WM (B.vl a1.toNatClampNeg) (B.tlOf a2) (dnX f day day) o (B.wx a1 a2 (dnX f day day)) I1 L1 → I1 186 14 = nI day → I1 186 15 = nI 1 → (∀ I' L' f, mfr I I' → WM (B.vl a1.toNatClampNeg) (B.tlOf a2) (dnX f day day) o (B.wx a1 a2 (dnX f day day)) I' L' → I' 186 15 = nI 1 → K (optI (szF (cuP B a1 a2 day) (B.wd a1 a2).v.n c lo)) b I' L') → SW m_M_cureBy 7 [vr 22 186, un, vi (nI k), vi (nI lo), un] [] b I1 L1 (kI K) := by
    intro c
    induction c with
    | zero =>
      intro lo hc f I1 L1 f1 W1 e14 e15 kk
      exact v_M_cureBy_7 ⟨fun _ => kk I1 L1 f f1 W1 e15, fun q => absurd (by rw [n_lt (by omega) (by omega)]; omega) q⟩
    | succ c ih =>
      intro lo hc f I1 L1 f1 W1 e14 e15 kk
      refine v_M_cureBy_7 ⟨fun q => absurd q (by rw [n_lt (by omega) (by omega)]; omega), fun _ => ?_⟩
      refine inner lo (by omega) (2 ^ (B.wd a1 a2).v.n) 0 (by omega) f I1 L1 f1 W1 e14 e15 (fun x hx I' L' f q1 q2 q3 => ?_) (fun hx I' L' f q1 q2 q3 q4 => ?_)
      · rw [flt_s] at hx
        have kk := kk I' L' f q1 q2 q3
        rw [szF_some hx] at kk
        exact kk
      · rw [flt_s] at hx
        refine ih (lo + 1) (by omega) f I' L' q1 q2 q3 q4 (fun I' L' f p1 p2 p3 => ?_)
        have kk := kk I' L' f p1 p2 p3
        rw [szF_none hx] at kk
        exact kk
  have W1 := WM_dn (g := f0) (df := day) (dt := day) (I' := sI I 186 14 (nI day)) (L' := L) (fun p hp => by rw [sI_j (by omega)]; exact W.2.2.2.1.2.2.1 p hp) (fun j _ _ q _ => sI_j q) (sI_at _ _ _ _) ⟨1, by omega, by omega, by rw [sI_j (by omega)]; exact e15, by omega⟩ (sI_c (by omega)) rfl (by omega) (by omega) W
  exact v_M_cureBy_0 (outer (k + 1) 0 (by omega) f0 _ L mfr_186 W1 (sI_at _ _ _ _) (by rw [sI_j (by omega)]; exact e15) (fun I' L' f q1 q2 q3 => hK I' L' f day day q1 q2 q3))
theorem op_cure : H_cure := by
  intro a1 a2 a3 a4
  refine Op2.q (fun B => if (inR a3 100 && (inR a4 4 && tkB B a1 a2)) = true then optI (szF (cuP B a1 a2 a3.toNatClampNeg) (B.wd a1 a2).v.n (a4.toNatClampNeg + 1) 0) else nM) (fun B I b L K ok hc k => ?_) (fun B I b L K ok hm k => ?_)
  · refine v_S_cure_0 (c_onDay (n := 99) (by decide) (fun g1 => ?_) (fun g1 => ?_))
    · obtain ⟨d, hd, rfl⟩ := (inR_iff (by decide)).mp g1
      cases g5 : inR a4 4 with
      | true =>
        obtain ⟨q, hq, rfl⟩ := (inR_iff (by decide)).mp g5
        simp (disch := first | omega | assumption) only [n_lit, n_gLt, n_gLe, n_gEq, n_gEq2, n_gLe2, n_gLt2, n_m1, n_add, n_mul, n_lt, n_le, n_eq, n_cl, n_in, n_rem, n_mlt, n_mle, n_ltm, n_lem, n_eqm, n_meq, n_bit, n_shl, n_b0, n_b1, n_sub, n_inT, nT, nF, lT, lF, eT, eF, not_false_eq_true, not_true_eq_false, sI_at, sI_c, sI_j, aI_at, aI_c, sL_at, sL_c, sL_j, true_and, and_true, not_true_eq_false, not_false_eq_true, forall_const, true_implies, false_implies, implies_true, if_true, if_false, ite_true, ite_false, Bool.not_eq_true, Bool.not_eq_false, Bool.true_eq_false, Bool.false_eq_true, false_and, and_false, or_true, true_or, false_or, or_false]
        refine c_takeW ok hc (fun g2 I1 L1 f1 W1 l0 => ?_) (fun g2 => ?_)
        · have hn := W1.vil.2.1.2
          simp (disch := first | omega | assumption) only [n_lit, n_gLt, n_gLe, n_gEq, n_gEq2, n_gLe2, n_gLt2, n_m1, n_add, n_mul, n_lt, n_le, n_eq, n_cl, n_in, n_rem, n_mlt, n_mle, n_ltm, n_lem, n_eqm, n_meq, n_bit, n_shl, n_b0, n_b1, n_sub, n_inT, nT, nF, lT, lF, eT, eF, not_false_eq_true, not_true_eq_false, sI_at, sI_c, sI_j, aI_at, aI_c, sL_at, sL_c, sL_j, true_and, and_true, not_true_eq_false, not_false_eq_true, forall_const, true_implies, false_implies, implies_true, if_true, if_false, ite_true, ite_false, Bool.not_eq_true, Bool.not_eq_false, Bool.true_eq_false, Bool.false_eq_true, false_and, and_false, or_true, true_or, false_or, or_false]
          refine c_leastCure ok g2 hn (by omega) (by omega) l0 (fun I2 L2 f2 => ?_)
          have kk := k b I2 L2 (fun a ha => (f2 a (by omega)).trans (f1 a (by omega)))
          rw [g1, g2, g5, n_cl (by omega), n_cl (by omega)] at kk
          exact kk
        · have kk := k b I L (fun _ _ => rfl)
          rw [g2, Bool.and_false, Bool.and_false] at kk
          simp (disch := first | omega | assumption) only [n_lit, n_gLt, n_gLe, n_gEq, n_gEq2, n_gLe2, n_gLt2, n_m1, n_add, n_mul, n_lt, n_le, n_eq, n_cl, n_in, n_rem, n_mlt, n_mle, n_ltm, n_lem, n_eqm, n_meq, n_bit, n_shl, n_b0, n_b1, n_sub, n_inT, nT, nF, lT, lF, eT, eF, not_false_eq_true, not_true_eq_false, sI_at, sI_c, sI_j, aI_at, aI_c, sL_at, sL_c, sL_j, true_and, and_true, not_true_eq_false, not_false_eq_true, forall_const, true_implies, false_implies, implies_true, if_true, if_false, ite_true, ite_false, Bool.not_eq_true, Bool.not_eq_false, Bool.true_eq_false, Bool.false_eq_true, false_and, and_false, or_true, true_or, false_or, or_false] at kk
          simp (disch := first | omega | assumption) only [n_lit, n_gLt, n_gLe, n_gEq, n_gEq2, n_gLe2, n_gLt2, n_m1, n_add, n_mul, n_lt, n_le, n_eq, n_cl, n_in, n_rem, n_mlt, n_mle, n_ltm, n_lem, n_eqm, n_meq, n_bit, n_shl, n_b0, n_b1, n_sub, n_inT, nT, nF, lT, lF, eT, eF, not_false_eq_true, not_true_eq_false, sI_at, sI_c, sI_j, aI_at, aI_c, sL_at, sL_c, sL_j, true_and, and_true, not_true_eq_false, not_false_eq_true, forall_const, true_implies, false_implies, implies_true, if_true, if_false, ite_true, ite_false, Bool.not_eq_true, Bool.not_eq_false, Bool.true_eq_false, Bool.false_eq_true, false_and, and_false, or_true, true_or, false_or, or_false]
          exact kk
      | false =>
        have kk := k b I L (fun _ _ => rfl)
        rw [g5, Bool.false_and, Bool.and_false] at kk
        simp (disch := first | omega | assumption) only [n_lit, n_gLt, n_gLe, n_gEq, n_gEq2, n_gLe2, n_gLt2, n_m1, n_add, n_mul, n_lt, n_le, n_eq, n_cl, n_in, n_rem, n_mlt, n_mle, n_ltm, n_lem, n_eqm, n_meq, n_bit, n_shl, n_b0, n_b1, n_sub, n_inT, nT, nF, lT, lF, eT, eF, not_false_eq_true, not_true_eq_false, sI_at, sI_c, sI_j, aI_at, aI_c, sL_at, sL_c, sL_j, true_and, and_true, not_true_eq_false, not_false_eq_true, forall_const, true_implies, false_implies, implies_true, if_true, if_false, ite_true, ite_false, Bool.not_eq_true, Bool.not_eq_false, Bool.true_eq_false, Bool.false_eq_true, false_and, and_false, or_true, true_or, false_or, or_false] at kk
        rcases inR_out (by decide) g5 with q | ⟨j, q1, q2, rfl⟩
        · simp (disch := first | omega | assumption) only [n_lit, n_gLt, n_gLe, n_gEq, n_gEq2, n_gLe2, n_gLt2, n_m1, n_add, n_mul, n_lt, n_le, n_eq, n_cl, n_in, n_rem, n_mlt, n_mle, n_ltm, n_lem, n_eqm, n_meq, n_bit, n_shl, n_b0, n_b1, n_sub, n_inT, nT, nF, lT, lF, eT, eF, not_false_eq_true, not_true_eq_false, sI_at, sI_c, sI_j, aI_at, aI_c, sL_at, sL_c, sL_j, true_and, and_true, not_true_eq_false, not_false_eq_true, forall_const, true_implies, false_implies, implies_true, if_true, if_false, ite_true, ite_false, Bool.not_eq_true, Bool.not_eq_false, Bool.true_eq_false, Bool.false_eq_true, false_and, and_false, or_true, true_or, false_or, or_false]
          exact kk
        · simp (disch := first | omega | assumption) only [n_lit, n_gLt, n_gLe, n_gEq, n_gEq2, n_gLe2, n_gLt2, n_m1, n_add, n_mul, n_lt, n_le, n_eq, n_cl, n_in, n_rem, n_mlt, n_mle, n_ltm, n_lem, n_eqm, n_meq, n_bit, n_shl, n_b0, n_b1, n_sub, n_inT, nT, nF, lT, lF, eT, eF, not_false_eq_true, not_true_eq_false, sI_at, sI_c, sI_j, aI_at, aI_c, sL_at, sL_c, sL_j, true_and, and_true, not_true_eq_false, not_false_eq_true, forall_const, true_implies, false_implies, implies_true, if_true, if_false, ite_true, ite_false, Bool.not_eq_true, Bool.not_eq_false, Bool.true_eq_false, Bool.false_eq_true, false_and, and_false, or_true, true_or, false_or, or_false]
          exact kk
    · have kk := k b I L (fun _ _ => rfl)
      rw [g1, Bool.false_and] at kk
      simp (disch := first | omega | assumption) only [n_lit, n_gLt, n_gLe, n_gEq, n_gEq2, n_gLe2, n_gLt2, n_m1, n_add, n_mul, n_lt, n_le, n_eq, n_cl, n_in, n_rem, n_mlt, n_mle, n_ltm, n_lem, n_eqm, n_meq, n_bit, n_shl, n_b0, n_b1, n_sub, n_inT, nT, nF, lT, lF, eT, eF, not_false_eq_true, not_true_eq_false, sI_at, sI_c, sI_j, aI_at, aI_c, sL_at, sL_c, sL_j, true_and, and_true, not_true_eq_false, not_false_eq_true, forall_const, true_implies, false_implies, implies_true, if_true, if_false, ite_true, ite_false, Bool.not_eq_true, Bool.not_eq_false, Bool.true_eq_false, Bool.false_eq_true, false_and, and_false, or_true, true_or, false_or, or_false] at kk
      simp (disch := first | omega | assumption) only [n_lit, n_gLt, n_gLe, n_gEq, n_gEq2, n_gLe2, n_gLt2, n_m1, n_add, n_mul, n_lt, n_le, n_eq, n_cl, n_in, n_rem, n_mlt, n_mle, n_ltm, n_lem, n_eqm, n_meq, n_bit, n_shl, n_b0, n_b1, n_sub, n_inT, nT, nF, lT, lF, eT, eF, not_false_eq_true, not_true_eq_false, sI_at, sI_c, sI_j, aI_at, aI_c, sL_at, sL_c, sL_j, true_and, and_true, not_true_eq_false, not_false_eq_true, forall_const, true_implies, false_implies, implies_true, if_true, if_false, ite_true, ite_false, Bool.not_eq_true, Bool.not_eq_false, Bool.true_eq_false, Bool.false_eq_true, false_and, and_false, or_true, true_or, false_or, or_false]
      exact kk
  · refine v_M_cure_0 (cm_isIn0 (n := 99) (by decide) (fun g1 => ?_) (fun g1 => ?_))
    · obtain ⟨d, hd, rfl⟩ := (inR_iff (by decide)).mp g1
      simp (disch := first | omega | assumption) only [n_lit, n_gLt, n_gLe, n_gEq, n_gEq2, n_gLe2, n_gLt2, n_m1, n_add, n_mul, n_lt, n_le, n_eq, n_cl, n_in, n_rem, n_mlt, n_mle, n_ltm, n_lem, n_eqm, n_meq, n_bit, n_shl, n_b0, n_b1, n_sub, n_inT, nT, nF, lT, lF, eT, eF, not_false_eq_true, not_true_eq_false, sI_at, sI_c, sI_j, aI_at, aI_c, sL_at, sL_c, sL_j, true_and, and_true, not_true_eq_false, not_false_eq_true, forall_const, true_implies, false_implies, implies_true, if_true, if_false, ite_true, ite_false, Bool.not_eq_true, Bool.not_eq_false, Bool.true_eq_false, Bool.false_eq_true, false_and, and_false, or_true, true_or, false_or, or_false]
      refine cm_isIn0 (n := 3) (by decide) (fun g5 => ?_) (fun g5 => ?_)
      · obtain ⟨q, hq, rfl⟩ := (inR_iff (by decide)).mp g5
        simp (disch := first | omega | assumption) only [n_lit, n_gLt, n_gLe, n_gEq, n_gEq2, n_gLe2, n_gLt2, n_m1, n_add, n_mul, n_lt, n_le, n_eq, n_cl, n_in, n_rem, n_mlt, n_mle, n_ltm, n_lem, n_eqm, n_meq, n_bit, n_shl, n_b0, n_b1, n_sub, n_inT, nT, nF, lT, lF, eT, eF, not_false_eq_true, not_true_eq_false, sI_at, sI_c, sI_j, aI_at, aI_c, sL_at, sL_c, sL_j, true_and, and_true, not_true_eq_false, not_false_eq_true, forall_const, true_implies, false_implies, implies_true, if_true, if_false, ite_true, ite_false, Bool.not_eq_true, Bool.not_eq_false, Bool.true_eq_false, Bool.false_eq_true, false_and, and_false, or_true, true_or, false_or, or_false]
        refine cm_bothP ok hm (fun g2 I1 L1 o f1 W1 P => ?_) (fun g2 I1 f1 => ?_)
        · simp (disch := first | omega | assumption) only [n_lit, n_gLt, n_gLe, n_gEq, n_gEq2, n_gLe2, n_gLt2, n_m1, n_add, n_mul, n_lt, n_le, n_eq, n_cl, n_in, n_rem, n_mlt, n_mle, n_ltm, n_lem, n_eqm, n_meq, n_bit, n_shl, n_b0, n_b1, n_sub, n_inT, nT, nF, lT, lF, eT, eF, not_false_eq_true, not_true_eq_false, sI_at, sI_c, sI_j, aI_at, aI_c, sL_at, sL_c, sL_j, true_and, and_true, not_true_eq_false, not_false_eq_true, forall_const, true_implies, false_implies, implies_true, if_true, if_false, ite_true, ite_false, Bool.not_eq_true, Bool.not_eq_false, Bool.true_eq_false, Bool.false_eq_true, false_and, and_false, or_true, true_or, false_or, or_false]
          refine cm_cureBy (f0 := fun _ => false) (d0 := 0) (t0 := 0) (by omega) (by omega) W1 P.2.2.2.2.2 (fun I2 L2 _ _ _ f2 _ _ => ?_)
          have kk := k b I2 L2 (fun a ha => (f2 a (by omega)).trans (f1 a (by omega)))
          rw [g1, g2, g5, n_cl (by omega), n_cl (by omega)] at kk
          exact kk
        · have kk := k b I1 L (fun a ha => f1 a (by omega))
          rw [g2, Bool.and_false, Bool.and_false] at kk
          simp (disch := first | omega | assumption) only [n_lit, n_gLt, n_gLe, n_gEq, n_gEq2, n_gLe2, n_gLt2, n_m1, n_add, n_mul, n_lt, n_le, n_eq, n_cl, n_in, n_rem, n_mlt, n_mle, n_ltm, n_lem, n_eqm, n_meq, n_bit, n_shl, n_b0, n_b1, n_sub, n_inT, nT, nF, lT, lF, eT, eF, not_false_eq_true, not_true_eq_false, sI_at, sI_c, sI_j, aI_at, aI_c, sL_at, sL_c, sL_j, true_and, and_true, not_true_eq_false, not_false_eq_true, forall_const, true_implies, false_implies, implies_true, if_true, if_false, ite_true, ite_false, Bool.not_eq_true, Bool.not_eq_false, Bool.true_eq_false, Bool.false_eq_true, false_and, and_false, or_true, true_or, false_or, or_false] at kk
          simp (disch := first | omega | assumption) only [n_lit, n_gLt, n_gLe, n_gEq, n_gEq2, n_gLe2, n_gLt2, n_m1, n_add, n_mul, n_lt, n_le, n_eq, n_cl, n_in, n_rem, n_mlt, n_mle, n_ltm, n_lem, n_eqm, n_meq, n_bit, n_shl, n_b0, n_b1, n_sub, n_inT, nT, nF, lT, lF, eT, eF, not_false_eq_true, not_true_eq_false, sI_at, sI_c, sI_j, aI_at, aI_c, sL_at, sL_c, sL_j, true_and, and_true, not_true_eq_false, not_false_eq_true, forall_const, true_implies, false_implies, implies_true, if_true, if_false, ite_true, ite_false, Bool.not_eq_true, Bool.not_eq_false, Bool.true_eq_false, Bool.false_eq_true, false_and, and_false, or_true, true_or, false_or, or_false]
          exact kk
      · have kk := k b I L (fun _ _ => rfl)
        rw [g5, Bool.false_and, Bool.and_false] at kk
        simp (disch := first | omega | assumption) only [n_lit, n_gLt, n_gLe, n_gEq, n_gEq2, n_gLe2, n_gLt2, n_m1, n_add, n_mul, n_lt, n_le, n_eq, n_cl, n_in, n_rem, n_mlt, n_mle, n_ltm, n_lem, n_eqm, n_meq, n_bit, n_shl, n_b0, n_b1, n_sub, n_inT, nT, nF, lT, lF, eT, eF, not_false_eq_true, not_true_eq_false, sI_at, sI_c, sI_j, aI_at, aI_c, sL_at, sL_c, sL_j, true_and, and_true, not_true_eq_false, not_false_eq_true, forall_const, true_implies, false_implies, implies_true, if_true, if_false, ite_true, ite_false, Bool.not_eq_true, Bool.not_eq_false, Bool.true_eq_false, Bool.false_eq_true, false_and, and_false, or_true, true_or, false_or, or_false] at kk
        simp (disch := first | omega | assumption) only [n_lit, n_gLt, n_gLe, n_gEq, n_gEq2, n_gLe2, n_gLt2, n_m1, n_add, n_mul, n_lt, n_le, n_eq, n_cl, n_in, n_rem, n_mlt, n_mle, n_ltm, n_lem, n_eqm, n_meq, n_bit, n_shl, n_b0, n_b1, n_sub, n_inT, nT, nF, lT, lF, eT, eF, not_false_eq_true, not_true_eq_false, sI_at, sI_c, sI_j, aI_at, aI_c, sL_at, sL_c, sL_j, true_and, and_true, not_true_eq_false, not_false_eq_true, forall_const, true_implies, false_implies, implies_true, if_true, if_false, ite_true, ite_false, Bool.not_eq_true, Bool.not_eq_false, Bool.true_eq_false, Bool.false_eq_true, false_and, and_false, or_true, true_or, false_or, or_false]
        exact kk
    · have kk := k b I L (fun _ _ => rfl)
      rw [g1, Bool.false_and] at kk
      simp (disch := first | omega | assumption) only [n_lit, n_gLt, n_gLe, n_gEq, n_gEq2, n_gLe2, n_gLt2, n_m1, n_add, n_mul, n_lt, n_le, n_eq, n_cl, n_in, n_rem, n_mlt, n_mle, n_ltm, n_lem, n_eqm, n_meq, n_bit, n_shl, n_b0, n_b1, n_sub, n_inT, nT, nF, lT, lF, eT, eF, not_false_eq_true, not_true_eq_false, sI_at, sI_c, sI_j, aI_at, aI_c, sL_at, sL_c, sL_j, true_and, and_true, not_true_eq_false, not_false_eq_true, forall_const, true_implies, false_implies, implies_true, if_true, if_false, ite_true, ite_false, Bool.not_eq_true, Bool.not_eq_false, Bool.true_eq_false, Bool.false_eq_true, false_and, and_false, or_true, true_or, false_or, or_false] at kk
      simp (disch := first | omega | assumption) only [n_lit, n_gLt, n_gLe, n_gEq, n_gEq2, n_gLe2, n_gLt2, n_m1, n_add, n_mul, n_lt, n_le, n_eq, n_cl, n_in, n_rem, n_mlt, n_mle, n_ltm, n_lem, n_eqm, n_meq, n_bit, n_shl, n_b0, n_b1, n_sub, n_inT, nT, nF, lT, lF, eT, eF, not_false_eq_true, not_true_eq_false, sI_at, sI_c, sI_j, aI_at, aI_c, sL_at, sL_c, sL_j, true_and, and_true, not_true_eq_false, not_false_eq_true, forall_const, true_implies, false_implies, implies_true, if_true, if_false, ite_true, ite_false, Bool.not_eq_true, Bool.not_eq_false, Bool.true_eq_false, Bool.false_eq_true, false_and, and_false, or_true, true_or, false_or, or_false]
      exact kk
/-! late -/
def lstN (Q : Nat → Bool) : Nat → Option Nat
  | 0 => none
  | c + 1 => if Q c = true then some c else lstN Q c
def preI : Nat → Int32
  | 0 => nM
  | c + 1 => nI c
theorem preI_s (c : Nat) : nI c + nM = preI c := by
  cases c with
  | zero => rfl
  | succ c => exact n_addm c
def ltB (B : Bk) (a1 a2 : Int32) (k d : Nat) : Bool := (szF (cuP B a1 a2 d) (B.wd a1 a2).v.n (k + 1) 0).isSome
theorem op_v {o : Option Nat} (h : ∀ x, o = some x → x < 2147483648) : (optI o = nM) = (o.isSome = false) ∧ (optI o < nI 0) = (o.isSome = false) := by
  cases o with
  | none => exact ⟨propext ⟨fun _ => rfl, fun _ => rfl⟩, propext ⟨fun _ => rfl, fun _ => by decide⟩⟩
  | some x =>
    have := h x rfl
    refine ⟨?_, ?_⟩
    · show (nI x = nM) = _
      rw [n_eqm this]
      exact propext ⟨fun q => q.elim, fun q => Bool.noConfusion q⟩
    · show (nI x < nI 0) = _
      rw [n_lt this (by omega)]
      exact propext ⟨fun q => absurd q (Nat.not_lt_zero _), fun q => Bool.noConfusion q⟩
theorem szF_lt {P : Nat → Bool} {n : Nat} (hn : n ≤ 16) : ∀ c lo x, c + lo ≤ 4 → szF P n c lo = some x → x < 65536
  | 0, lo, x, _, h => by cases h
  | c + 1, lo, x, hc, h => by
    cases e : (LsA n lo).find? P with
    | none =>
      rw [szF_none e] at h
      exact szF_lt hn c (lo + 1) x (by omega) h
    | some y =>
      rw [szF_some e] at h
      cases h
      have h16 : 2 ^ n ≤ 2 ^ 16 := Nat.pow_le_pow_right (by decide) hn
      have := (setsP_of (sets_16 n (by omega) lo (by omega))).2.2.1 _ (List.mem_of_find?_eq_some e)
      omega
theorem c_late {B : Bk} {a1 a2 : Int32} {most : Nat} {I : MI} {L : ML} (ok : B.ok) (g2 : tkB B a1 a2 = true) (hn : (B.wd a1 a2).v.n ≤ 16) (hm : most ≤ 2) (l0 : lif B a1 a2 wi0 I L) {b : Bool} {K : Int32 → Bool → MI → ML → Prop} (hK : ∀ I' L', (∀ a, a < 154 ∨ 186 ≤ a → I' a = I a) → K (optI (lstN (ltB B a1 a2 most) 41)) b I' L') : CI m_Search_lastCureDay [vr 15 181, vi (nI most)] b I L K := by
  have W0 : WL (B.wd a1 a2) I L := lif_W ok g2 wi0_ok l0
  refine v_Search_lastCureDay_0 (c_lc (s0 := 0) W0 (by omega) (fun e he => absurd he (Nat.not_lt_zero _)) (by omega) (fun I1 L1 f1 m1 _ => ?_))
  have l1 := lif_fr (I' := I1) (L' := L1) (fun a q1 q2 => f1 a (by omega)) (fun a ha => m1 a (by omega) (by omega) (by omega)) l0
  cases c : cleanB (B.wd a1 a2) with
  | true =>
    have kk := hK I1 L1 (fun a ha => f1 a (by omega))
    have e : ltB B a1 a2 most 40 = true := by
      unfold ltB
      rw [szF_0t ((cuP_0 B a1 a2 40).trans c)]
      rfl
    have e2 : lstN (ltB B a1 a2 most) 41 = some 40 := if_pos e
    rw [e2] at kk
    exact ⟨fun q => absurd q (by decide), fun _ => kk⟩
  | false =>
    refine ⟨fun _ => ?_, fun q => absurd rfl q⟩
    have W1 : WL (B.wd a1 a2) I1 L1 := lif_W ok g2 wi0_ok l1
    have eQ : ∀ d, ltB B a1 a2 most d = (szF (cuP B a1 a2 d) (B.wd a1 a2).v.n most 1).isSome := fun d => by
      unfold ltB
      rw [szF_0f ((cuP_0 B a1 a2 d).trans c)]
    refine c_days (d := 40) W1 (by omega) (fun I2 L2 f2 m2 r2 => ?_)
    have l2 := lif_fr (I' := I2) (L' := L2) (fun a q1 q2 => f2 a (by omega)) (fun a ha => m2 a (by omega) (by omega) (by omega)) l1
    have loop : ∀ n, n ≤ 41 → ∀ (f : Nat → Bool) (d t : Nat) (I3 : MI) (L3 : ML), (∀ a, a < 154 ∨ 186 ≤ a → I3 a = I a) → lif B a1 a2 (dnX f d t) I3 L3 → (∀ e, e + 1 < n → rowC (B.wd a1 a2) e I3 L3) → (∀ I' L', (∀ a, a < 154 ∨ 186 ≤ a → I' a = I a) → K (optI (lstN (ltB B a1 a2 most) n)) b I' L') → SW m_Search_lastCureDay 39 [vr 15 181, vi (nI most), vi (preI n)] [] b I3 L3 (kI K) := by
      intro n
      induction n with
      | zero =>
        intro _ f d t I3 L3 f3 l3 r3 kk
        exact v_Search_lastCureDay_39 ⟨fun _ => kk I3 L3 f3, fun q => absurd (show nM < nI 0 by decide) q⟩
      | succ n ih =>
        intro hn2 f d t I3 L3 f3 l3 r3 kk
        refine v_Search_lastCureDay_39 ⟨fun q => absurd (show nI n < nI 0 from q) (by rw [n_lt (by omega) (by omega)]; omega), fun _ => ?_⟩
        show CI m_Search_leastDenied [vr 15 181, vi (nI n), vi (nI most)] b I3 L3 _
        refine c_leastDenied ok g2 hn (by omega) (by omega) l3 (fun e he => r3 e (by omega)) (fun I4 L4 f d t f4 l4 r4 => ?_)
        have fr : ∀ a, a < 154 ∨ 186 ≤ a → I4 a = I a := fun a ha => (f4 a ha).trans (f3 a ha)
        have ev := (op_v (o := szF (cuP B a1 a2 n) (B.wd a1 a2).v.n most 1) (fun x h => by
          have := szF_lt hn most 1 x (by omega) h
          omega)).1
        rw [← eQ n] at ev
        show (optI _ = nM → _) ∧ (¬ optI _ = nM → _)
        rw [ev]
        refine ⟨fun q => ?_, fun q => ?_⟩
        · show SW m_Search_lastCureDay 39 [vr 15 181, vi (nI most), vi (nI n + nM)] [] b I4 L4 (kI K)
          rw [preI_s]
          refine ih (by omega) f d t I4 L4 fr l4 (fun e he => r4 e (by omega)) (fun I' L' f' => ?_)
          have kk := kk I' L' f'
          have e2 : lstN (ltB B a1 a2 most) (n + 1) = lstN (ltB B a1 a2 most) n := if_neg (by rw [q]; exact Bool.false_ne_true)
          rw [e2] at kk
          exact kk
        · have kk := kk I4 L4 fr
          have e2 : lstN (ltB B a1 a2 most) (n + 1) = some n := if_pos (by
            cases z : ltB B a1 a2 most n with
            | true => rfl
            | false => exact absurd z q)
          rw [e2] at kk
          exact kk
    exact loop 41 (Nat.le_refl _) (fun _ => false) 0 0 I2 L2 (fun a ha => by rw [f2 a (by omega), f1 a (by omega)]) l2 (fun e he => r2 e (by omega)) hK
theorem cm_late {B : Bk} {a1 a2 : Int32} {k o : Nat} {I : MI} {L : ML} (hk : k ≤ 2) (W : WM (B.vl a1.toNatClampNeg) (B.tlOf a2) wi0 o (B.wd a1 a2) I L) (e15 : I 186 15 = nI 1) {b : Bool} {K : Int32 → Bool → MI → ML → Prop} (hK : ∀ I' L', mfr I I' → K (optI (lstN (ltB B a1 a2 k) 41)) b I' L') : SW m_M_late 24 [vr 22 186, un, un, vi (nI k), vi (nI 40)] [] b I L (kI K) := by
  have hn : (B.wd a1 a2).v.n ≤ 16 := W.1.2.1.1.2
  have loop : ∀ n, n ≤ 41 → ∀ (f : Nat → Bool) (d t : Nat) (I3 : MI) (L3 : ML), mfr I I3 → WM (B.vl a1.toNatClampNeg) (B.tlOf a2) (dnX f d t) o (B.wx a1 a2 (dnX f d t)) I3 L3 → I3 186 15 = nI 1 → (∀ I' L', mfr I I' → K (optI (lstN (ltB B a1 a2 k) n)) b I' L') → SW m_M_late 24 [vr 22 186, un, un, vi (nI k), vi (preI n)] [] b I3 L3 (kI K) := by
    intro n
    induction n with
    | zero =>
      intro _ f d t I3 L3 f3 W3 _ kk
      exact v_M_late_24 ⟨fun _ => kk I3 L3 f3, fun q => absurd (show nM < nI 0 by decide) q⟩
    | succ n ih =>
      intro hn2 f d t I3 L3 f3 W3 e3 kk
      refine v_M_late_24 ⟨fun q => absurd (show nI n < nI 0 from q) (by rw [n_lt (by omega) (by omega)]; omega), fun _ => ?_⟩
      show CI m_M_cureBy [vr 22 186, vi (nI n), vi (nI k)] b I3 L3 _
      refine cm_cureBy (by omega) (by omega) W3 e3 (fun I4 L4 f d t f4 W4 e4 => ?_)
      have fr : mfr I I4 := f3.trans f4
      have ev := (op_v (o := szF (cuP B a1 a2 n) (B.wd a1 a2).v.n (k + 1) 0) (fun x h => by
        have := szF_lt hn (k + 1) 0 x (by omega) h
        omega)).2
      show (optI _ < nI 0 → _) ∧ (¬ optI _ < nI 0 → _)
      rw [ev]
      refine ⟨fun q => ?_, fun q => ?_⟩
      · show SW m_M_late 24 [vr 22 186, un, un, vi (nI k), vi (nI n + nM)] [] b I4 L4 (kI K)
        rw [preI_s]
        refine ih (by omega) f d t I4 L4 fr W4 e4 (fun I' L' f' => ?_)
        have kk := kk I' L' f'
        have e2 : lstN (ltB B a1 a2 k) (n + 1) = lstN (ltB B a1 a2 k) n := if_neg (show ¬ ltB B a1 a2 k n = true by
          intro z
          have z : (szF (cuP B a1 a2 n) (B.wd a1 a2).v.n (k + 1) 0).isSome = true := z
          rw [q] at z
          cases z)
        rw [e2] at kk
        exact kk
      · have kk := kk I4 L4 fr
        have e2 : lstN (ltB B a1 a2 k) (n + 1) = some n := if_pos (show ltB B a1 a2 k n = true by
          cases z : ltB B a1 a2 k n with
          | true => rfl
          | false => exact absurd z q)
        rw [e2] at kk
        exact kk
  exact loop 41 (Nat.le_refl _) (fun _ => false) 0 0 I L (fun a _ => rfl) W e15 hK
theorem op_late : H_late := by
  intro a1 a2 a3
  refine Op2.q (fun B => if (inR a3 3 && tkB B a1 a2) = true then optI (lstN (ltB B a1 a2 a3.toNatClampNeg) 41) else nM) (fun B I b L K ok hc k => ?_) (fun B I b L K ok hm k => ?_)
  · refine v_S_late_0 ?_
    cases g5 : inR a3 3 with
    | true =>
      obtain ⟨q, hq, rfl⟩ := (inR_iff (by decide)).mp g5
      simp (disch := first | omega | assumption) only [n_lit, n_gLt, n_gLe, n_gEq, n_gEq2, n_gLe2, n_gLt2, n_m1, n_add, n_mul, n_lt, n_le, n_eq, n_cl, n_in, n_rem, n_mlt, n_mle, n_ltm, n_lem, n_eqm, n_meq, n_bit, n_shl, n_b0, n_b1, n_sub, n_inT, nT, nF, lT, lF, eT, eF, not_false_eq_true, not_true_eq_false, sI_at, sI_c, sI_j, aI_at, aI_c, sL_at, sL_c, sL_j, true_and, and_true, not_true_eq_false, not_false_eq_true, forall_const, true_implies, false_implies, implies_true, if_true, if_false, ite_true, ite_false, Bool.not_eq_true, Bool.not_eq_false, Bool.true_eq_false, Bool.false_eq_true, false_and, and_false, or_true, true_or, false_or, or_false]
      refine c_takeW ok hc (fun g2 I1 L1 f1 W1 l0 => ?_) (fun g2 => ?_)
      · have hn := W1.vil.2.1.2
        simp (disch := first | omega | assumption) only [n_lit, n_gLt, n_gLe, n_gEq, n_gEq2, n_gLe2, n_gLt2, n_m1, n_add, n_mul, n_lt, n_le, n_eq, n_cl, n_in, n_rem, n_mlt, n_mle, n_ltm, n_lem, n_eqm, n_meq, n_bit, n_shl, n_b0, n_b1, n_sub, n_inT, nT, nF, lT, lF, eT, eF, not_false_eq_true, not_true_eq_false, sI_at, sI_c, sI_j, aI_at, aI_c, sL_at, sL_c, sL_j, true_and, and_true, not_true_eq_false, not_false_eq_true, forall_const, true_implies, false_implies, implies_true, if_true, if_false, ite_true, ite_false, Bool.not_eq_true, Bool.not_eq_false, Bool.true_eq_false, Bool.false_eq_true, false_and, and_false, or_true, true_or, false_or, or_false]
        refine c_late ok g2 hn (by omega) l0 (fun I2 L2 f2 => ?_)
        have kk := k b I2 L2 (fun a ha => (f2 a (by omega)).trans (f1 a (by omega)))
        rw [g2, g5, n_cl (by omega)] at kk
        exact kk
      · have kk := k b I L (fun _ _ => rfl)
        rw [g2, Bool.and_false] at kk
        simp (disch := first | omega | assumption) only [n_lit, n_gLt, n_gLe, n_gEq, n_gEq2, n_gLe2, n_gLt2, n_m1, n_add, n_mul, n_lt, n_le, n_eq, n_cl, n_in, n_rem, n_mlt, n_mle, n_ltm, n_lem, n_eqm, n_meq, n_bit, n_shl, n_b0, n_b1, n_sub, n_inT, nT, nF, lT, lF, eT, eF, not_false_eq_true, not_true_eq_false, sI_at, sI_c, sI_j, aI_at, aI_c, sL_at, sL_c, sL_j, true_and, and_true, not_true_eq_false, not_false_eq_true, forall_const, true_implies, false_implies, implies_true, if_true, if_false, ite_true, ite_false, Bool.not_eq_true, Bool.not_eq_false, Bool.true_eq_false, Bool.false_eq_true, false_and, and_false, or_true, true_or, false_or, or_false] at kk
        simp (disch := first | omega | assumption) only [n_lit, n_gLt, n_gLe, n_gEq, n_gEq2, n_gLe2, n_gLt2, n_m1, n_add, n_mul, n_lt, n_le, n_eq, n_cl, n_in, n_rem, n_mlt, n_mle, n_ltm, n_lem, n_eqm, n_meq, n_bit, n_shl, n_b0, n_b1, n_sub, n_inT, nT, nF, lT, lF, eT, eF, not_false_eq_true, not_true_eq_false, sI_at, sI_c, sI_j, aI_at, aI_c, sL_at, sL_c, sL_j, true_and, and_true, not_true_eq_false, not_false_eq_true, forall_const, true_implies, false_implies, implies_true, if_true, if_false, ite_true, ite_false, Bool.not_eq_true, Bool.not_eq_false, Bool.true_eq_false, Bool.false_eq_true, false_and, and_false, or_true, true_or, false_or, or_false]
        exact kk
    | false =>
      have kk := k b I L (fun _ _ => rfl)
      rw [g5, Bool.false_and] at kk
      simp (disch := first | omega | assumption) only [n_lit, n_gLt, n_gLe, n_gEq, n_gEq2, n_gLe2, n_gLt2, n_m1, n_add, n_mul, n_lt, n_le, n_eq, n_cl, n_in, n_rem, n_mlt, n_mle, n_ltm, n_lem, n_eqm, n_meq, n_bit, n_shl, n_b0, n_b1, n_sub, n_inT, nT, nF, lT, lF, eT, eF, not_false_eq_true, not_true_eq_false, sI_at, sI_c, sI_j, aI_at, aI_c, sL_at, sL_c, sL_j, true_and, and_true, not_true_eq_false, not_false_eq_true, forall_const, true_implies, false_implies, implies_true, if_true, if_false, ite_true, ite_false, Bool.not_eq_true, Bool.not_eq_false, Bool.true_eq_false, Bool.false_eq_true, false_and, and_false, or_true, true_or, false_or, or_false] at kk
      rcases inR_out (by decide) g5 with q | ⟨j, q1, q2, rfl⟩
      · simp (disch := first | omega | assumption) only [n_lit, n_gLt, n_gLe, n_gEq, n_gEq2, n_gLe2, n_gLt2, n_m1, n_add, n_mul, n_lt, n_le, n_eq, n_cl, n_in, n_rem, n_mlt, n_mle, n_ltm, n_lem, n_eqm, n_meq, n_bit, n_shl, n_b0, n_b1, n_sub, n_inT, nT, nF, lT, lF, eT, eF, not_false_eq_true, not_true_eq_false, sI_at, sI_c, sI_j, aI_at, aI_c, sL_at, sL_c, sL_j, true_and, and_true, not_true_eq_false, not_false_eq_true, forall_const, true_implies, false_implies, implies_true, if_true, if_false, ite_true, ite_false, Bool.not_eq_true, Bool.not_eq_false, Bool.true_eq_false, Bool.false_eq_true, false_and, and_false, or_true, true_or, false_or, or_false]
        exact kk
      · simp (disch := first | omega | assumption) only [n_lit, n_gLt, n_gLe, n_gEq, n_gEq2, n_gLe2, n_gLt2, n_m1, n_add, n_mul, n_lt, n_le, n_eq, n_cl, n_in, n_rem, n_mlt, n_mle, n_ltm, n_lem, n_eqm, n_meq, n_bit, n_shl, n_b0, n_b1, n_sub, n_inT, nT, nF, lT, lF, eT, eF, not_false_eq_true, not_true_eq_false, sI_at, sI_c, sI_j, aI_at, aI_c, sL_at, sL_c, sL_j, true_and, and_true, not_true_eq_false, not_false_eq_true, forall_const, true_implies, false_implies, implies_true, if_true, if_false, ite_true, ite_false, Bool.not_eq_true, Bool.not_eq_false, Bool.true_eq_false, Bool.false_eq_true, false_and, and_false, or_true, true_or, false_or, or_false]
        exact kk
  · refine v_M_late_0 (cm_isIn0 (n := 2) (by decide) (fun g5 => ?_) (fun g5 => ?_))
    · obtain ⟨q, hq, rfl⟩ := (inR_iff (by decide)).mp g5
      simp (disch := first | omega | assumption) only [n_lit, n_gLt, n_gLe, n_gEq, n_gEq2, n_gLe2, n_gLt2, n_m1, n_add, n_mul, n_lt, n_le, n_eq, n_cl, n_in, n_rem, n_mlt, n_mle, n_ltm, n_lem, n_eqm, n_meq, n_bit, n_shl, n_b0, n_b1, n_sub, n_inT, nT, nF, lT, lF, eT, eF, not_false_eq_true, not_true_eq_false, sI_at, sI_c, sI_j, aI_at, aI_c, sL_at, sL_c, sL_j, true_and, and_true, not_true_eq_false, not_false_eq_true, forall_const, true_implies, false_implies, implies_true, if_true, if_false, ite_true, ite_false, Bool.not_eq_true, Bool.not_eq_false, Bool.true_eq_false, Bool.false_eq_true, false_and, and_false, or_true, true_or, false_or, or_false]
      refine cm_bothP ok hm (fun g2 I1 L1 o f1 W1 P => ?_) (fun g2 I1 f1 => ?_)
      · simp (disch := first | omega | assumption) only [n_lit, n_gLt, n_gLe, n_gEq, n_gEq2, n_gLe2, n_gLt2, n_m1, n_add, n_mul, n_lt, n_le, n_eq, n_cl, n_in, n_rem, n_mlt, n_mle, n_ltm, n_lem, n_eqm, n_meq, n_bit, n_shl, n_b0, n_b1, n_sub, n_inT, nT, nF, lT, lF, eT, eF, not_false_eq_true, not_true_eq_false, sI_at, sI_c, sI_j, aI_at, aI_c, sL_at, sL_c, sL_j, true_and, and_true, not_true_eq_false, not_false_eq_true, forall_const, true_implies, false_implies, implies_true, if_true, if_false, ite_true, ite_false, Bool.not_eq_true, Bool.not_eq_false, Bool.true_eq_false, Bool.false_eq_true, false_and, and_false, or_true, true_or, false_or, or_false]
        refine cm_late (by omega) W1 P.2.2.2.2.2 (fun I2 L2 f2 => ?_)
        have kk := k b I2 L2 (fun a ha => (f2 a (by omega)).trans (f1 a (by omega)))
        rw [g2, g5, n_cl (by omega)] at kk
        exact kk
      · have kk := k b I1 L (fun a ha => f1 a (by omega))
        rw [g2, Bool.and_false] at kk
        simp (disch := first | omega | assumption) only [n_lit, n_gLt, n_gLe, n_gEq, n_gEq2, n_gLe2, n_gLt2, n_m1, n_add, n_mul, n_lt, n_le, n_eq, n_cl, n_in, n_rem, n_mlt, n_mle, n_ltm, n_lem, n_eqm, n_meq, n_bit, n_shl, n_b0, n_b1, n_sub, n_inT, nT, nF, lT, lF, eT, eF, not_false_eq_true, not_true_eq_false, sI_at, sI_c, sI_j, aI_at, aI_c, sL_at, sL_c, sL_j, true_and, and_true, not_true_eq_false, not_false_eq_true, forall_const, true_implies, false_implies, implies_true, if_true, if_false, ite_true, ite_false, Bool.not_eq_true, Bool.not_eq_false, Bool.true_eq_false, Bool.false_eq_true, false_and, and_false, or_true, true_or, false_or, or_false] at kk
        simp (disch := first | omega | assumption) only [n_lit, n_gLt, n_gLe, n_gEq, n_gEq2, n_gLe2, n_gLt2, n_m1, n_add, n_mul, n_lt, n_le, n_eq, n_cl, n_in, n_rem, n_mlt, n_mle, n_ltm, n_lem, n_eqm, n_meq, n_bit, n_shl, n_b0, n_b1, n_sub, n_inT, nT, nF, lT, lF, eT, eF, not_false_eq_true, not_true_eq_false, sI_at, sI_c, sI_j, aI_at, aI_c, sL_at, sL_c, sL_j, true_and, and_true, not_true_eq_false, not_false_eq_true, forall_const, true_implies, false_implies, implies_true, if_true, if_false, ite_true, ite_false, Bool.not_eq_true, Bool.not_eq_false, Bool.true_eq_false, Bool.false_eq_true, false_and, and_false, or_true, true_or, false_or, or_false]
        exact kk
    · have kk := k b I L (fun _ _ => rfl)
      rw [g5, Bool.false_and] at kk
      simp (disch := first | omega | assumption) only [n_lit, n_gLt, n_gLe, n_gEq, n_gEq2, n_gLe2, n_gLt2, n_m1, n_add, n_mul, n_lt, n_le, n_eq, n_cl, n_in, n_rem, n_mlt, n_mle, n_ltm, n_lem, n_eqm, n_meq, n_bit, n_shl, n_b0, n_b1, n_sub, n_inT, nT, nF, lT, lF, eT, eF, not_false_eq_true, not_true_eq_false, sI_at, sI_c, sI_j, aI_at, aI_c, sL_at, sL_c, sL_j, true_and, and_true, not_true_eq_false, not_false_eq_true, forall_const, true_implies, false_implies, implies_true, if_true, if_false, ite_true, ite_false, Bool.not_eq_true, Bool.not_eq_false, Bool.true_eq_false, Bool.false_eq_true, false_and, and_false, or_true, true_or, false_or, or_false] at kk
      simp (disch := first | omega | assumption) only [n_lit, n_gLt, n_gLe, n_gEq, n_gEq2, n_gLe2, n_gLt2, n_m1, n_add, n_mul, n_lt, n_le, n_eq, n_cl, n_in, n_rem, n_mlt, n_mle, n_ltm, n_lem, n_eqm, n_meq, n_bit, n_shl, n_b0, n_b1, n_sub, n_inT, nT, nF, lT, lF, eT, eF, not_false_eq_true, not_true_eq_false, sI_at, sI_c, sI_j, aI_at, aI_c, sL_at, sL_c, sL_j, true_and, and_true, not_true_eq_false, not_false_eq_true, forall_const, true_implies, false_implies, implies_true, if_true, if_false, ite_true, ite_false, Bool.not_eq_true, Bool.not_eq_false, Bool.true_eq_false, Bool.false_eq_true, false_and, and_false, or_true, true_or, false_or, or_false]
      exact kk
