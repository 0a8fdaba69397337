/-! QUESTIONS of two tellings: unlike -/
theorem v_Search_firstUnlikeN_0 {b : Bool} {I : MI} {L : ML} {K : Int32 → Bool → MI → ML → Prop} (h : CV m_Run_live [vr 14 153, vi (0 : Int32), vi (200 : Int32), vi (0 : Int32)] b I L (fun b_1 I_1 L_1 => SW m_Search_firstUnlike 14 [vr 15 181, vr 0 0, vi (0 : Int32)] [] b_1 I_1 L_1 (kI K))) : CI m_Search_firstUnlike [vr 15 181, vr 0 0] b I L K := wpS_sound (C := [(14, [true, true, true]), (70, [true, false, true])]) (ls := [vr 15 181, vr 0 0, un]) 300 h
theorem v_Search_firstUnlikeN_14 {x2 : Int32} {b : Bool} {I : MI} {L : ML} {K : Int32 → Bool → MI → ML → Prop} (h : (((200 : Int32) < x2 → CV m_Given_set [vr 12 161, vr 0 0, vi (I 154 3)] b I L (fun b_1 I_1 L_1 => CV m_Run_live [vr 14 153, vi (0 : Int32), vi (200 : Int32), vi (0 : Int32)] b_1 I_1 L_1 (fun b_2 I_2 L_2 => SW m_Search_firstUnlike 70 [vr 15 181, un, vi (0 : Int32)] [] b_2 I_2 L_2 (kI K)))) ∧ (¬ (200 : Int32) < x2 → CI m_Days_holdersOn [vr 11 165, vi x2] b I L (fun v_3 b_3 I_3 L_3 => (vp_in x2 201 ∧ SW m_Search_firstUnlike 14 [vr 15 181, vr 0 0, vi (x2 + (1 : Int32))] [] b_3 (sI I_3 182 x2.toNatClampNeg v_3) L_3 (kI K)))))) : SW m_Search_firstUnlike 14 [vr 15 181, vr 0 0, vi x2] [] b I L (kI K) := wpS_sound (C := [(14, [true, true, true]), (70, [true, false, true])]) (ls := [vr 15 181, vr 0 0, vi x2]) 300 h
def ulO (w1 w2 : Wd) (n lo : Nat) : Option Nat := fstN (fun d => decide (¬ hdI w1 d = hdI w2 d)) n lo
theorem c_unlike {tt kk m0 : Nat} {t : Tel} {v : Vil} {w : Wd} {I0 : MI} (ew : w.v = v) (em : v.m = m0) (hv : v.ok 41) (ht : t.ok)
    (v0 : ∀ {b : Bool} {I : MI} {L : ML} {K : Int32 → Bool → MI → ML → Prop}, CV m_Run_live [vr 14 153, vi (0 : Int32), vi (200 : Int32), vi (0 : Int32)] b I L (fun b_1 I_1 L_1 => SW m_Search_firstUnlike 14 [vr 15 181, vr tt kk, vi (0 : Int32)] [] b_1 I_1 L_1 (kI K)) → CI m_Search_firstUnlike [vr 15 181, vr tt kk] b I L K)
    (v14 : ∀ {x2 : Int32} {b : Bool} {I : MI} {L : ML} {K : Int32 → Bool → MI → ML → Prop}, ((200 : Int32) < x2 → CV m_Given_set [vr 12 161, vr tt kk, vi (I 154 3)] b I L (fun b_1 I_1 L_1 => CV m_Run_live [vr 14 153, vi (0 : Int32), vi (200 : Int32), vi (0 : Int32)] b_1 I_1 L_1 (fun b_2 I_2 L_2 => SW m_Search_firstUnlike 70 [vr 15 181, un, vi (0 : Int32)] [] b_2 I_2 L_2 (kI K)))) ∧ (¬ (200 : Int32) < x2 → CI m_Days_holdersOn [vr 11 165, vi x2] b I L (fun v_3 b_3 I_3 L_3 => (vp_in x2 201 ∧ SW m_Search_firstUnlike 14 [vr 15 181, vr tt kk, vi (x2 + (1 : Int32))] [] b_3 (sI I_3 182 x2.toNatClampNeg v_3) L_3 (kI K)))) → SW m_Search_firstUnlike 14 [vr 15 181, vr tt kk, vi x2] [] b I L (kI K))
    (hset : ∀ {b : Bool} {I : MI} {L : ML} {K : Bool → MI → ML → Prop}, (∀ a, a < 154 → I a = I0 a) → (∀ I' L', setQ m0 t I I' L L' → K b I' L') → CV m_Given_set [vr 12 161, vr tt kk, vi (nI m0)] b I L K)
    {b : Bool} {I : MI} {L : ML} {K : Int32 → Bool → MI → ML → Prop} (W : WL w I L) (h0 : ∀ a, a < 154 → I a = I0 a) (hK : ∀ I' L', (∀ a, a < 154 ∨ 186 ≤ a → I' a = I a) → K (optI (ulO w (mkW v m0 t wi0) 201 0)) b I' L') : CI m_Search_firstUnlike [vr 15 181, vr tt kk] b I L K := by
  subst em ew
  have hn := W.vil.2.1.2
  refine v0 ?_
  refine c_live (w := w) (s0 := 0) (U := 201) (by omega) (by omega) (Or.inr ⟨by omega, rfl⟩) (Or.inl rfl) W (fun e he => absurd he (Nat.not_lt_zero _)) (by omega) (fun N I2 L2 f2 l2 n1 n2 rows R _ hN _ => ?_)
  have hN := hN rfl
  clear R
  subst hN
  have W2 : WL w I2 L2 := W.fr (fun a c1 c2 => f2 a (by omega)) (fun a ha => l2 a (by omega) (by omega) (by omega))
  have loop : ∀ n i, i + n = 201 → ∀ I3 : MI, (∀ a, a ≠ 182 → I3 a = I2 a) → (∀ e, e < i → I3 182 e = hdI w e) → SW m_Search_firstUnlike 14 [vr 15 181, vr tt kk, vi (nI i)] [] b I3 L2 (kI K) := by
    intro n
    induction n with
    | zero =>
      intro i hi I3 f3 s3
      obtain rfl : i = 201 := by omega
      have W3 : WL w I3 L2 := W2.fr (fun a c1 c2 => f3 a (by omega)) (fun a _ => rfl)
      have e3 := W3.vil.1.1.2.1
      refine v14 ?_
      simp (disch := first | omega | assumption) only [n_lit, n_gLt, n_gLe, n_gEq, n_gEq2, n_gLe2, n_gLt2, n_m1, n_add, n_mul, n_lt, n_le, n_eq, n_cl, n_in, n_rem, n_mlt, n_mle, n_ltm, n_lem, n_eqm, n_meq, n_bit, n_shl, n_b0, n_b1, n_sub, n_inT, nT, nF, lT, lF, eT, eF, not_false_eq_true, not_true_eq_false, sI_at, sI_c, sI_j, aI_at, aI_c, sL_at, sL_c, sL_j, true_and, and_true, not_true_eq_false, not_false_eq_true, forall_const, true_implies, false_implies, implies_true, if_true, if_false, ite_true, ite_false, Bool.not_eq_true, Bool.not_eq_false, Bool.true_eq_false, Bool.false_eq_true, false_and, and_false, or_true, true_or, false_or, or_false, e3]
      refine hset (fun a ha => by rw [f3 a (by omega), f2 a (by omega), h0 a ha]) (fun I4 L4 Q => ?_)
      have W4 : WL (mkW w.v w.v.m t wi0) I4 L4 := ⟨w.v, w.v.m, t, wi0, rfl, hv, ht, wi0_ok, vilC_fr (fun a q1 q2 => Q.1 a (by omega) (by omega) (by omega)) W3.vil.1, Q.2.2.1, Q.2.2.2⟩
      refine c_live (w := mkW w.v w.v.m t wi0) (s0 := 0) (U := 201) (by omega) (by omega) (Or.inr ⟨by omega, rfl⟩) (Or.inl rfl) W4 (fun e he => absurd he (Nat.not_lt_zero _)) (by omega) (fun N I5 L5 f5 l5 n1 n2 rows R _ hN _ => ?_)
      have hN := hN rfl
      clear R
      subst hN
      have s5 : ∀ e, e < 201 → I5 182 e = hdI w e := fun e he => by rw [f5 182 (by omega), Q.1 182 (by omega) (by omega) (by omega), s3 e he]
      have kk := hK I5 L5 (fun a ha => by rw [f5 a (by omega), Q.1 a (by omega) (by omega) (by omega), f3 a (by omega), f2 a (by omega)])
      have loop2 : ∀ n i, i + n = 201 → K (optI (ulO w (mkW w.v w.v.m t wi0) n i)) b I5 L5 → SW m_Search_firstUnlike 70 [vr 15 181, un, vi (nI i)] [] b I5 L5 (kI K) := by
        intro n
        induction n with
        | zero =>
          intro i hi kk
          obtain rfl : i = 201 := by omega
          refine v_Search_firstUnlike_70 ?_
          simp (disch := first | omega | assumption) only [n_lit, n_gLt, n_gLe, n_gEq, n_gEq2, n_gLe2, n_gLt2, n_m1, n_add, n_mul, n_lt, n_le, n_eq, n_cl, n_in, n_rem, n_mlt, n_mle, n_ltm, n_lem, n_eqm, n_meq, n_bit, n_shl, n_b0, n_b1, n_sub, n_inT, nT, nF, lT, lF, eT, eF, not_false_eq_true, not_true_eq_false, sI_at, sI_c, sI_j, aI_at, aI_c, sL_at, sL_c, sL_j, true_and, and_true, not_true_eq_false, not_false_eq_true, forall_const, true_implies, false_implies, implies_true, if_true, if_false, ite_true, ite_false, Bool.not_eq_true, Bool.not_eq_false, Bool.true_eq_false, Bool.false_eq_true, false_and, and_false, or_true, true_or, false_or, or_false]
          exact kk
        | succ n ih =>
          intro i hi kk
          have e := s5 i (by omega)
          unfold ulO fstN at kk
          refine v_Search_firstUnlike_70 ?_
          simp (disch := first | omega | assumption) only [n_lit, n_gLt, n_gLe, n_gEq, n_gEq2, n_gLe2, n_gLt2, n_m1, n_add, n_mul, n_lt, n_le, n_eq, n_cl, n_in, n_rem, n_mlt, n_mle, n_ltm, n_lem, n_eqm, n_meq, n_bit, n_shl, n_b0, n_b1, n_sub, n_inT, nT, nF, lT, lF, eT, eF, not_false_eq_true, not_true_eq_false, sI_at, sI_c, sI_j, aI_at, aI_c, sL_at, sL_c, sL_j, true_and, and_true, not_true_eq_false, not_false_eq_true, forall_const, true_implies, false_implies, implies_true, if_true, if_false, ite_true, ite_false, Bool.not_eq_true, Bool.not_eq_false, Bool.true_eq_false, Bool.false_eq_true, false_and, and_false, or_true, true_or, false_or, or_false]
          refine c_holdersOn (w := mkW w.v w.v.m t wi0) (by omega) hn (rows i (by omega)) ?_
          rw [e]
          by_cases c : hdI w i = hdI (mkW w.v w.v.m t wi0) i
          · rw [if_neg (by rw [decide_eq_false (not_not_intro c)]; exact Bool.false_ne_true)] at kk
            have nxt := ih (i + 1) (by omega) kk
            exact ⟨fun _ => nxt, fun z => absurd c z⟩
          · rw [if_pos (decide_eq_true c)] at kk
            exact ⟨fun z => absurd z c, fun _ => kk⟩
      exact loop2 201 0 (by omega) kk
    | succ n ih =>
      intro i hi I3 f3 s3
      have nxt := ih (i + 1) (by omega) (sI I3 182 i (hdI w i)) (fun a ha => by rw [sI_c ha, f3 a ha]) (fun e he => by
        by_cases c : e = i
        · subst c
          exact sI_at _ _ _ _
        · rw [sI_j c, s3 e (by omega)])
      have r := rowC_fr (I' := I3) (L' := L2) (fun a q1 q2 => f3 a (by omega)) (fun a _ => rfl) (rows i (by omega))
      refine v14 ?_
      simp (disch := first | omega | assumption) only [n_lit, n_gLt, n_gLe, n_gEq, n_gEq2, n_gLe2, n_gLt2, n_m1, n_add, n_mul, n_lt, n_le, n_eq, n_cl, n_in, n_rem, n_mlt, n_mle, n_ltm, n_lem, n_eqm, n_meq, n_bit, n_shl, n_b0, n_b1, n_sub, n_inT, nT, nF, lT, lF, eT, eF, not_false_eq_true, not_true_eq_false, sI_at, sI_c, sI_j, aI_at, aI_c, sL_at, sL_c, sL_j, true_and, and_true, not_true_eq_false, not_false_eq_true, forall_const, true_implies, false_implies, implies_true, if_true, if_false, ite_true, ite_false, Bool.not_eq_true, Bool.not_eq_false, Bool.true_eq_false, Bool.false_eq_true, false_and, and_false, or_true, true_or, false_or, or_false]
      refine c_holdersOn (by omega) hn r ?_
      exact nxt
  exact loop 201 0 (by omega) I2 (fun a _ => rfl) (fun e he => absurd he (Nat.not_lt_zero _))
theorem tk_vil {B : Bk} {a1 a2 a3 : Int32} (ok : B.ok) (h2 : tkB B a1 a2 = true) : tkB B a1 a3 = true ↔ (a3 = nM ∨ ∃ j, j < B.nt ∧ a3 = nI j) := by
  rw [tkB_iff ok]
  exact ⟨fun h => h.2, fun h => ⟨((tkB_iff ok).mp h2).1, h⟩⟩
theorem op_unlike : H_unlike := by
  intro a1 a2 a3
  refine Op2.q (fun B => if (tkB B a1 a2 && tkB B a1 a3) = true then optI (ulO (B.wd a1 a2) (B.wd a1 a3) 201 0) else nM) (fun B I b L K ok hc k => ?_) (fun B I b L K ok hm k => ?_)
  · refine v_S_unlike_0 (c_takeW ok hc (fun g2 I1 L1 f1 W1 _ => ?_) (fun g2 => ?_))
    · have hc1 : bkC 1 B I1 := bkC_fr ok (fun a q1 q2 => f1 a (by omega)) hc
      have tv := tk_vil (a3 := a3) ok g2
      simp (disch := first | omega | assumption) only [n_lit, n_gLt, n_gLe, n_gEq, n_gEq2, n_gLe2, n_gLt2, n_m1, n_add, n_mul, n_lt, n_le, n_eq, n_cl, n_in, n_rem, n_mlt, n_mle, n_ltm, n_lem, n_eqm, n_meq, n_bit, n_shl, n_b0, n_b1, n_sub, n_inT, nT, nF, lT, lF, eT, eF, not_false_eq_true, not_true_eq_false, sI_at, sI_c, sI_j, aI_at, aI_c, sL_at, sL_c, sL_j, true_and, and_true, not_true_eq_false, not_false_eq_true, forall_const, true_implies, false_implies, implies_true, if_true, if_false, ite_true, ite_false, Bool.not_eq_true, Bool.not_eq_false, Bool.true_eq_false, Bool.false_eq_true, false_and, and_false, or_true, true_or, false_or, or_false]
      refine c_told ok hc1 (fun c2 => ?_) (fun c2 => ?_)
      · simp (disch := first | omega | assumption) only [n_lit, n_gLt, n_gLe, n_gEq, n_gEq2, n_gLe2, n_gLt2, n_m1, n_add, n_mul, n_lt, n_le, n_eq, n_cl, n_in, n_rem, n_mlt, n_mle, n_ltm, n_lem, n_eqm, n_meq, n_bit, n_shl, n_b0, n_b1, n_sub, n_inT, nT, nF, lT, lF, eT, eF, not_false_eq_true, not_true_eq_false, sI_at, sI_c, sI_j, aI_at, aI_c, sL_at, sL_c, sL_j, true_and, and_true, not_true_eq_false, not_false_eq_true, forall_const, true_implies, false_implies, implies_true, if_true, if_false, ite_true, ite_false, Bool.not_eq_true, Bool.not_eq_false, Bool.true_eq_false, Bool.false_eq_true, false_and, and_false, or_true, true_or, false_or, or_false]
        have g3 := tv.mpr c2
        obtain ⟨k0, hk0, rfl, ek, hv, ht⟩ := tk_in ok g3
        have h2 := ok.1.2.1
        have kk : ∀ I' L', (∀ a, a < 154 ∨ 186 ≤ a → I' a = I1 a) → K (optI (ulO (B.wd (nI k0) a2) (mkW (B.vl k0) (B.vl k0).m (B.tlOf a3) wi0) 201 0)) b I' L' := fun I' L' f => by
          have kk := k b I' L' (fun a ha => (f a (by omega)).trans (f1 a (by omega)))
          rw [g2, g3] at kk
          have e : B.wd (nI k0) a3 = mkW (B.vl k0) (B.vl k0).m (B.tlOf a3) wi0 := by
            unfold Bk.wd
            rw [ek]
          rw [e] at kk
          exact kk
        have ew : (B.wd (nI k0) a2).v = B.vl k0 := by
          unfold Bk.wd
          rw [ek]
          rfl
        refine v_Book_tellingOrNull_0 ?_
        rcases c2 with rfl | ⟨j, hj, rfl⟩
        · refine c_hasT_n hc1.1.2.1 h2 (fun ⟨j, h1, h3⟩ => absurd h3 (by rw [n_meq (by omega)]; exact id)) ?_
          simp (disch := first | omega | assumption) only [n_lit, n_gLt, n_gLe, n_gEq, n_gEq2, n_gLe2, n_gLt2, n_m1, n_add, n_mul, n_lt, n_le, n_eq, n_cl, n_in, n_rem, n_mlt, n_mle, n_ltm, n_lem, n_eqm, n_meq, n_bit, n_shl, n_b0, n_b1, n_sub, n_inT, nT, nF, lT, lF, eT, eF, not_false_eq_true, not_true_eq_false, sI_at, sI_c, sI_j, aI_at, aI_c, sL_at, sL_c, sL_j, true_and, and_true, not_true_eq_false, not_false_eq_true, forall_const, true_implies, false_implies, implies_true, if_true, if_false, ite_true, ite_false, Bool.not_eq_true, Bool.not_eq_false, Bool.true_eq_false, Bool.false_eq_true, false_and, and_false, or_true, true_or, false_or, or_false]
          refine c_unlike (t := B.tlOf nM) (v := B.vl k0) (m0 := (B.vl k0).m) (I0 := I1) ew rfl (ok41 hv) ht (fun h => v_Search_firstUnlikeN_0 h) (fun h => v_Search_firstUnlikeN_14 h) (fun h5 hK => c_setN (fun I' L' q => hK I' L' ?_)) W1 (fun a _ => rfl) kk
          unfold Bk.tlOf
          rw [if_pos rfl]
          exact q
        · refine c_hasT_y hc1.1.2.1 h2 hj ?_
          simp (disch := first | omega | assumption) only [n_lit, n_gLt, n_gLe, n_gEq, n_gEq2, n_gLe2, n_gLt2, n_m1, n_add, n_mul, n_lt, n_le, n_eq, n_cl, n_in, n_rem, n_mlt, n_mle, n_ltm, n_lem, n_eqm, n_meq, n_bit, n_shl, n_b0, n_b1, n_sub, n_inT, nT, nF, lT, lF, eT, eF, not_false_eq_true, not_true_eq_false, sI_at, sI_c, sI_j, aI_at, aI_c, sL_at, sL_c, sL_j, true_and, and_true, not_true_eq_false, not_false_eq_true, forall_const, true_implies, false_implies, implies_true, if_true, if_false, ite_true, ite_false, Bool.not_eq_true, Bool.not_eq_false, Bool.true_eq_false, Bool.false_eq_true, false_and, and_false, or_true, true_or, false_or, or_false]
          refine c_unlike (t := B.tlOf (nI j)) (v := B.vl k0) (m0 := (B.vl k0).m) (I0 := I1) ew rfl (ok41 hv) ht (fun h => v_Search_firstUnlike_0 h) (fun h => v_Search_firstUnlike_14 h) (fun h5 hK => c_set (t := B.tl j) (by have := hv.2.1; omega) (ok.2.2.2 j hj) (by omega) ?_ (fun I' L' q => hK I' L' ?_)) W1 (fun a _ => rfl) kk
          · have hc2 : bkC 1 B _ := bkC_fr ok (fun a q1 q2 => h5 a (by omega)) hc1
            have := hc2.2.2.2 j hj
            simp only [show 1 + 2 + 17 + 5 * j = 1 + 19 + 5 * j by omega]
            exact this
          · unfold Bk.tlOf
            rw [if_neg (by rw [n_eqm (by omega)]; exact id), n_cl (by omega)]
            exact q
      · have g3 : tkB B a1 a3 = false := by
          cases h : tkB B a1 a3 with
          | false => rfl
          | true => exact absurd (tv.mp h) c2
        have kk := k b I1 L1 (fun a ha => f1 a (by omega))
        rw [g3, Bool.and_false] at kk
        simp (disch := first | omega | assumption) only [n_lit, n_gLt, n_gLe, n_gEq, n_gEq2, n_gLe2, n_gLt2, n_m1, n_add, n_mul, n_lt, n_le, n_eq, n_cl, n_in, n_rem, n_mlt, n_mle, n_ltm, n_lem, n_eqm, n_meq, n_bit, n_shl, n_b0, n_b1, n_sub, n_inT, nT, nF, lT, lF, eT, eF, not_false_eq_true, not_true_eq_false, sI_at, sI_c, sI_j, aI_at, aI_c, sL_at, sL_c, sL_j, true_and, and_true, not_true_eq_false, not_false_eq_true, forall_const, true_implies, false_implies, implies_true, if_true, if_false, ite_true, ite_false, Bool.not_eq_true, Bool.not_eq_false, Bool.true_eq_false, Bool.false_eq_true, false_and, and_false, or_true, true_or, false_or, or_false] at kk
        simp (disch := first | omega | assumption) only [n_lit, n_gLt, n_gLe, n_gEq, n_gEq2, n_gLe2, n_gLt2, n_m1, n_add, n_mul, n_lt, n_le, n_eq, n_cl, n_in, n_rem, n_mlt, n_mle, n_ltm, n_lem, n_eqm, n_meq, n_bit, n_shl, n_b0, n_b1, n_sub, n_inT, nT, nF, lT, lF, eT, eF, not_false_eq_true, not_true_eq_false, sI_at, sI_c, sI_j, aI_at, aI_c, sL_at, sL_c, sL_j, true_and, and_true, not_true_eq_false, not_false_eq_true, forall_const, true_implies, false_implies, implies_true, if_true, if_false, ite_true, ite_false, Bool.not_eq_true, Bool.not_eq_false, Bool.true_eq_false, Bool.false_eq_true, false_and, and_false, or_true, true_or, false_or, or_false]
        exact kk
    · have kk := k b I L (fun _ _ => rfl)
      rw [g2, Bool.false_and] at kk
      simp (disch := first | omega | assumption) only [n_lit, n_gLt, n_gLe, n_gEq, n_gEq2, n_gLe2, n_gLt2, n_m1, n_add, n_mul, n_lt, n_le, n_eq, n_cl, n_in, n_rem, n_mlt, n_mle, n_ltm, n_lem, n_eqm, n_meq, n_bit, n_shl, n_b0, n_b1, n_sub, n_inT, nT, nF, lT, lF, eT, eF, not_false_eq_true, not_true_eq_false, sI_at, sI_c, sI_j, aI_at, aI_c, sL_at, sL_c, sL_j, true_and, and_true, not_true_eq_false, not_false_eq_true, forall_const, true_implies, false_implies, implies_true, if_true, if_false, ite_true, ite_false, Bool.not_eq_true, Bool.not_eq_false, Bool.true_eq_false, Bool.false_eq_true, false_and, and_false, or_true, true_or, false_or, or_false] at kk
      simp (disch := first | omega | assumption) only [n_lit, n_gLt, n_gLe, n_gEq, n_gEq2, n_gLe2, n_gLt2, n_m1, n_add, n_mul, n_lt, n_le, n_eq, n_cl, n_in, n_rem, n_mlt, n_mle, n_ltm, n_lem, n_eqm, n_meq, n_bit, n_shl, n_b0, n_b1, n_sub, n_inT, nT, nF, lT, lF, eT, eF, not_false_eq_true, not_true_eq_false, sI_at, sI_c, sI_j, aI_at, aI_c, sL_at, sL_c, sL_j, true_and, and_true, not_true_eq_false, not_false_eq_true, forall_const, true_implies, false_implies, implies_true, if_true, if_false, ite_true, ite_false, Bool.not_eq_true, Bool.not_eq_false, Bool.true_eq_false, Bool.false_eq_true, false_and, and_false, or_true, true_or, false_or, or_false]
      exact kk
  · refine v_M_unlike_0 (cm_bothW ok hm (fun g2 I1 L1 o f1 W1 => ?_) (fun g2 I1 f1 => ?_))
    · have hn := W1.1.2.1.1.2
      simp (disch := first | omega | assumption) only [n_lit, n_gLt, n_gLe, n_gEq, n_gEq2, n_gLe2, n_gLt2, n_m1, n_add, n_mul, n_lt, n_le, n_eq, n_cl, n_in, n_rem, n_mlt, n_mle, n_ltm, n_lem, n_eqm, n_meq, n_bit, n_shl, n_b0, n_b1, n_sub, n_inT, nT, nF, lT, lF, eT, eF, not_false_eq_true, not_true_eq_false, sI_at, sI_c, sI_j, aI_at, aI_c, sL_at, sL_c, sL_j, true_and, and_true, not_true_eq_false, not_false_eq_true, forall_const, true_implies, false_implies, implies_true, if_true, if_false, ite_true, ite_false, Bool.not_eq_true, Bool.not_eq_false, Bool.true_eq_false, Bool.false_eq_true, false_and, and_false, or_true, true_or, false_or, or_false]
      refine cm_runs W1 (Or.inr rfl) (fun N I2 L2 f2 l2 n1 D R hN _ => ?_)
      have hN := hN rfl
      clear R
      subst hN
      have W2 := W1.frM f2 (l2 186 (by decide))
      have D := D.2.2.2.1
      have loop : ∀ n i, i + n = 201 → ∀ I3 : MI, (∀ a, a ≠ 205 → I3 a = I2 a) → (∀ e, e < i → I3 205 e = hdI (B.wd a1 a2) e) → SW m_M_unlike 19 [vr 22 186, vi a1, un, vi a3, vi (nI i)] [] b I3 L2 (kI K) := by
        intro n
        induction n with
        | zero =>
          intro i hi I3 f3 s3
          obtain rfl : i = 201 := by omega
          have hm3 : bkM 0 B I3 := bkM_fr (by rw [f3 187 (by omega), f2.1 187 (by omega), f1 187 (by omega)]) hm
          refine v_M_unlike_19 ?_
          simp (disch := first | omega | assumption) only [n_lit, n_gLt, n_gLe, n_gEq, n_gEq2, n_gLe2, n_gLt2, n_m1, n_add, n_mul, n_lt, n_le, n_eq, n_cl, n_in, n_rem, n_mlt, n_mle, n_ltm, n_lem, n_eqm, n_meq, n_bit, n_shl, n_b0, n_b1, n_sub, n_inT, nT, nF, lT, lF, eT, eF, not_false_eq_true, not_true_eq_false, sI_at, sI_c, sI_j, aI_at, aI_c, sL_at, sL_c, sL_j, true_and, and_true, not_true_eq_false, not_false_eq_true, forall_const, true_implies, false_implies, implies_true, if_true, if_false, ite_true, ite_false, Bool.not_eq_true, Bool.not_eq_false, Bool.true_eq_false, Bool.false_eq_true, false_and, and_false, or_true, true_or, false_or, or_false]
          refine cm_bothW ok hm3 (fun g3 I4 L4 o4 f4 W4 => ?_) (fun g3 I4 f4 => ?_)
          · simp (disch := first | omega | assumption) only [n_lit, n_gLt, n_gLe, n_gEq, n_gEq2, n_gLe2, n_gLt2, n_m1, n_add, n_mul, n_lt, n_le, n_eq, n_cl, n_in, n_rem, n_mlt, n_mle, n_ltm, n_lem, n_eqm, n_meq, n_bit, n_shl, n_b0, n_b1, n_sub, n_inT, nT, nF, lT, lF, eT, eF, not_false_eq_true, not_true_eq_false, sI_at, sI_c, sI_j, aI_at, aI_c, sL_at, sL_c, sL_j, true_and, and_true, not_true_eq_false, not_false_eq_true, forall_const, true_implies, false_implies, implies_true, if_true, if_false, ite_true, ite_false, Bool.not_eq_true, Bool.not_eq_false, Bool.true_eq_false, Bool.false_eq_true, false_and, and_false, or_true, true_or, false_or, or_false]
            refine cm_runs W4 (Or.inr rfl) (fun N I5 L5 f5 l5 n5 D5 R hN _ => ?_)
            have hN := hN rfl
            clear R
            subst hN
            have W5 := W4.frM f5 (l5 186 (by decide))
            have D5 := D5.2.2.2.1
            have kk := k b I5 L5 (fun a ha => by rw [f5.1 a (by omega), f4 a (by omega), f3 a (by omega), f2.1 a (by omega), f1 a (by omega)])
            rw [g2, g3] at kk
            have s5 : ∀ e, e < 201 → I5 205 e = hdI (B.wd a1 a2) e := fun e he => by rw [f5.1 205 (by omega), f4 205 (by omega), s3 e he]
            have loop2 : ∀ n i, i + n = 201 → K (optI (ulO (B.wd a1 a2) (B.wd a1 a3) n i)) b I5 L5 → SW m_M_unlike 66 [vr 22 186, un, un, un, vi (nI i)] [] b I5 L5 (kI K) := by
              intro n
              induction n with
              | zero =>
                intro i hi kk
                obtain rfl : i = 201 := by omega
                refine v_M_unlike_66 ?_
                simp (disch := first | omega | assumption) only [n_lit, n_gLt, n_gLe, n_gEq, n_gEq2, n_gLe2, n_gLt2, n_m1, n_add, n_mul, n_lt, n_le, n_eq, n_cl, n_in, n_rem, n_mlt, n_mle, n_ltm, n_lem, n_eqm, n_meq, n_bit, n_shl, n_b0, n_b1, n_sub, n_inT, nT, nF, lT, lF, eT, eF, not_false_eq_true, not_true_eq_false, sI_at, sI_c, sI_j, aI_at, aI_c, sL_at, sL_c, sL_j, true_and, and_true, not_true_eq_false, not_false_eq_true, forall_const, true_implies, false_implies, implies_true, if_true, if_false, ite_true, ite_false, Bool.not_eq_true, Bool.not_eq_false, Bool.true_eq_false, Bool.false_eq_true, false_and, and_false, or_true, true_or, false_or, or_false]
                exact kk
              | succ n ih =>
                intro i hi kk
                have e := s5 i (by omega)
                unfold ulO fstN at kk
                refine v_M_unlike_66 ?_
                simp (disch := first | omega | assumption) only [n_lit, n_gLt, n_gLe, n_gEq, n_gEq2, n_gLe2, n_gLt2, n_m1, n_add, n_mul, n_lt, n_le, n_eq, n_cl, n_in, n_rem, n_mlt, n_mle, n_ltm, n_lem, n_eqm, n_meq, n_bit, n_shl, n_b0, n_b1, n_sub, n_inT, nT, nF, lT, lF, eT, eF, not_false_eq_true, not_true_eq_false, sI_at, sI_c, sI_j, aI_at, aI_c, sL_at, sL_c, sL_j, true_and, and_true, not_true_eq_false, not_false_eq_true, forall_const, true_implies, false_implies, implies_true, if_true, if_false, ite_true, ite_false, Bool.not_eq_true, Bool.not_eq_false, Bool.true_eq_false, Bool.false_eq_true, false_and, and_false, or_true, true_or, false_or, or_false]
                refine cm_holdersOf (u := nI 0) (by omega) W5 (D5 i (by omega)) ?_
                rw [if_pos rfl, e]
                by_cases c : hdI (B.wd a1 a2) i = hdI (B.wd a1 a3) i
                · rw [if_neg (by rw [decide_eq_false (not_not_intro c)]; exact Bool.false_ne_true)] at kk
                  have nxt := ih (i + 1) (by omega) kk
                  exact ⟨fun _ => nxt, fun z => absurd c z⟩
                · rw [if_pos (decide_eq_true c)] at kk
                  exact ⟨fun z => absurd z c, fun _ => kk⟩
            exact loop2 201 0 (by omega) kk
          · have kk := k b I4 L2 (fun a ha => by rw [f4 a (by omega), f3 a (by omega), f2.1 a (by omega), f1 a (by omega)])
            rw [g3, Bool.and_false] at kk
            simp (disch := first | omega | assumption) only [n_lit, n_gLt, n_gLe, n_gEq, n_gEq2, n_gLe2, n_gLt2, n_m1, n_add, n_mul, n_lt, n_le, n_eq, n_cl, n_in, n_rem, n_mlt, n_mle, n_ltm, n_lem, n_eqm, n_meq, n_bit, n_shl, n_b0, n_b1, n_sub, n_inT, nT, nF, lT, lF, eT, eF, not_false_eq_true, not_true_eq_false, sI_at, sI_c, sI_j, aI_at, aI_c, sL_at, sL_c, sL_j, true_and, and_true, not_true_eq_false, not_false_eq_true, forall_const, true_implies, false_implies, implies_true, if_true, if_false, ite_true, ite_false, Bool.not_eq_true, Bool.not_eq_false, Bool.true_eq_false, Bool.false_eq_true, false_and, and_false, or_true, true_or, false_or, or_false] at kk
            simp (disch := first | omega | assumption) only [n_lit, n_gLt, n_gLe, n_gEq, n_gEq2, n_gLe2, n_gLt2, n_m1, n_add, n_mul, n_lt, n_le, n_eq, n_cl, n_in, n_rem, n_mlt, n_mle, n_ltm, n_lem, n_eqm, n_meq, n_bit, n_shl, n_b0, n_b1, n_sub, n_inT, nT, nF, lT, lF, eT, eF, not_false_eq_true, not_true_eq_false, sI_at, sI_c, sI_j, aI_at, aI_c, sL_at, sL_c, sL_j, true_and, and_true, not_true_eq_false, not_false_eq_true, forall_const, true_implies, false_implies, implies_true, if_true, if_false, ite_true, ite_false, Bool.not_eq_true, Bool.not_eq_false, Bool.true_eq_false, Bool.false_eq_true, false_and, and_false, or_true, true_or, false_or, or_false]
            exact kk
        | succ n ih =>
          intro i hi I3 f3 s3
          have nxt := ih (i + 1) (by omega) (sI I3 205 i (hdI (B.wd a1 a2) i)) (fun a ha => by rw [sI_c ha, f3 a ha]) (fun e he => by
            by_cases c : e = i
            · subst c
              exact sI_at _ _ _ _
            · rw [sI_j c, s3 e (by omega)])
          have W3 := W2.fr (I' := I3) (L' := L2) (fun j _ => by rw [f3 186 (by omega)]) (f3 187 (by omega)) rfl
          have D3 : dayQ (B.wd a1 a2) i I3 := fun p hp => by
            rw [f3 190 (by omega), f3 191 (by omega), f3 192 (by omega), f3 193 (by omega), f3 194 (by omega)]
            exact D i (by omega) p hp
          refine v_M_unlike_19 ?_
          simp (disch := first | omega | assumption) only [n_lit, n_gLt, n_gLe, n_gEq, n_gEq2, n_gLe2, n_gLt2, n_m1, n_add, n_mul, n_lt, n_le, n_eq, n_cl, n_in, n_rem, n_mlt, n_mle, n_ltm, n_lem, n_eqm, n_meq, n_bit, n_shl, n_b0, n_b1, n_sub, n_inT, nT, nF, lT, lF, eT, eF, not_false_eq_true, not_true_eq_false, sI_at, sI_c, sI_j, aI_at, aI_c, sL_at, sL_c, sL_j, true_and, and_true, not_true_eq_false, not_false_eq_true, forall_const, true_implies, false_implies, implies_true, if_true, if_false, ite_true, ite_false, Bool.not_eq_true, Bool.not_eq_false, Bool.true_eq_false, Bool.false_eq_true, false_and, and_false, or_true, true_or, false_or, or_false]
          refine cm_holdersOf (u := nI 0) (by omega) W3 D3 ?_
          rw [if_pos rfl]
          exact nxt
      exact loop 201 0 (by omega) I2 (fun a _ => rfl) (fun e he => absurd he (Nat.not_lt_zero _))
    · have kk := k b I1 L (fun a ha => f1 a (by omega))
      rw [g2, Bool.false_and] at kk
      simp (disch := first | omega | assumption) only [n_lit, n_gLt, n_gLe, n_gEq, n_gEq2, n_gLe2, n_gLt2, n_m1, n_add, n_mul, n_lt, n_le, n_eq, n_cl, n_in, n_rem, n_mlt, n_mle, n_ltm, n_lem, n_eqm, n_meq, n_bit, n_shl, n_b0, n_b1, n_sub, n_inT, nT, nF, lT, lF, eT, eF, not_false_eq_true, not_true_eq_false, sI_at, sI_c, sI_j, aI_at, aI_c, sL_at, sL_c, sL_j, true_and, and_true, not_true_eq_false, not_false_eq_true, forall_const, true_implies, false_implies, implies_true, if_true, if_false, ite_true, ite_false, Bool.not_eq_true, Bool.not_eq_false, Bool.true_eq_false, Bool.false_eq_true, false_and, and_false, or_true, true_or, false_or, or_false] at kk
      simp (disch := first | omega | assumption) only [n_lit, n_gLt, n_gLe, n_gEq, n_gEq2, n_gLe2, n_gLt2, n_m1, n_add, n_mul, n_lt, n_le, n_eq, n_cl, n_in, n_rem, n_mlt, n_mle, n_ltm, n_lem, n_eqm, n_meq, n_bit, n_shl, n_b0, n_b1, n_sub, n_inT, nT, nF, lT, lF, eT, eF, not_false_eq_true, not_true_eq_false, sI_at, sI_c, sI_j, aI_at, aI_c, sL_at, sL_c, sL_j, true_and, and_true, not_true_eq_false, not_false_eq_true, forall_const, true_implies, false_implies, implies_true, if_true, if_false, ite_true, ite_false, Bool.not_eq_true, Bool.not_eq_false, Bool.true_eq_false, Bool.false_eq_true, false_and, and_false, or_true, true_or, false_or, or_false]
      exact kk
