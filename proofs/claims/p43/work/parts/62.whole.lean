/-! QUESTIONS of a run: whole -/
theorem bI_or {n : Nat} (hn : n ≤ 32) {f g h : Nat → Bool} (e : ∀ i, i < n → h i = (f i || g i)) : bI n f ||| bI n g = bI n h := bI_of hn (fun i _ => by
  rw [b_or, bI_bit f hn, bI_bit g hn]
  by_cases c : i < n
  · rw [decide_eq_true c, Bool.true_and, Bool.true_and, Bool.true_and, e i c]
  · rw [decide_eq_false c]
    rfl)
theorem bI_z {n : Nat} (hn : n ≤ 32) {f : Nat → Bool} : (bI n f = nI 0) = (anyN n f = false) := by
  refine propext ⟨fun h => anyN_no.mpr fun i hi => ?_, fun h => b_ext fun i _ => ?_⟩
  · have e := bI_bit f hn (i := i)
    rw [h, b_0, decide_eq_true hi, Bool.true_and] at e
    exact e.symm
  · rw [b_0, bI_bit f hn]
    by_cases c : i < n
    · rw [anyN_no.mp h i c, Bool.and_false]
    · rw [decide_eq_false c, Bool.false_and]
def evI (w : Wd) (N : Nat) : Int32 := bI w.v.n (fun p => anyN N (fun e => hold w e p))
theorem evI_next {w : Wd} (hn : w.v.n ≤ 16) (N : Nat) : evI w N ||| hdI w N = evI w (N + 1) := bI_or (by omega) (fun _ _ => rfl)
theorem evI_0 {w : Wd} : evI w 0 = nI 0 := b_ext (fun i hi => by
  unfold evI
  by_cases c : w.v.n ≤ 32
  · rw [bI_bit _ c, b_0]
    exact Bool.and_false _
  · rw [show (fun p => anyN 0 fun e => hold w e p) = (fun _ => false) from rfl]
    unfold bI
    rw [b_nI, b_0, bN_bit, Bool.and_false, Bool.and_false])
theorem c_everHolders {w : Wd} {N : Nat} {I : MI} {L : ML} (hn : w.v.n ≤ 16) (hN : N ≤ 201) (h0 : 0 < N) {b : Bool} {K : Int32 → Bool → MI → ML → Prop} (rows : ∀ e, e < N → rowC w e I L) (hr : I 165 6 = nI (N - 1)) (hK : K (evI w N) b I L) : CI m_Days_everHolders [vr 11 165] b I L K := by
  have loop : ∀ n i, i + n = N → SW m_Days_everHolders 4 [vr 11 165, vi (evI w i), vi (nI i)] [] b I L (kI K) := by
    intro n
    induction n with
    | zero =>
      intro i hi
      obtain rfl : i = N := by omega
      refine v_Days_everHolders_4 ?_
      simp (disch := first | omega | assumption) only [n_lit, n_gLt, n_gLe, n_gEq, n_gEq2, n_gLe2, n_gLt2, n_m1, n_add, n_mul, n_lt, n_le, n_eq, n_cl, n_in, n_rem, n_mlt, n_mle, n_ltm, n_lem, n_eqm, n_meq, n_bit, n_shl, n_b0, n_b1, n_sub, n_inT, nT, nF, lT, lF, eT, eF, not_false_eq_true, not_true_eq_false, sI_at, sI_c, sI_j, aI_at, aI_c, sL_at, sL_c, sL_j, true_and, and_true, not_true_eq_false, not_false_eq_true, forall_const, true_implies, false_implies, implies_true, if_true, if_false, ite_true, ite_false, Bool.not_eq_true, Bool.not_eq_false, Bool.true_eq_false, Bool.false_eq_true, false_and, and_false, or_true, true_or, false_or, or_false, hr]
      exact hK
    | succ n ih =>
      intro i hi
      have nxt := ih (i + 1) (by omega)
      refine v_Days_everHolders_4 ?_
      simp (disch := first | omega | assumption) only [n_lit, n_gLt, n_gLe, n_gEq, n_gEq2, n_gLe2, n_gLt2, n_m1, n_add, n_mul, n_lt, n_le, n_eq, n_cl, n_in, n_rem, n_mlt, n_mle, n_ltm, n_lem, n_eqm, n_meq, n_bit, n_shl, n_b0, n_b1, n_sub, n_inT, nT, nF, lT, lF, eT, eF, not_false_eq_true, not_true_eq_false, sI_at, sI_c, sI_j, aI_at, aI_c, sL_at, sL_c, sL_j, true_and, and_true, not_true_eq_false, not_false_eq_true, forall_const, true_implies, false_implies, implies_true, if_true, if_false, ite_true, ite_false, Bool.not_eq_true, Bool.not_eq_false, Bool.true_eq_false, Bool.false_eq_true, false_and, and_false, or_true, true_or, false_or, or_false, hr]
      refine c_holdersOn (by omega) hn (rows i (by omega)) ?_
      simp (disch := first | omega | assumption) only [n_lit, n_gLt, n_gLe, n_gEq, n_gEq2, n_gLe2, n_gLt2, n_m1, n_add, n_mul, n_lt, n_le, n_eq, n_cl, n_in, n_rem, n_mlt, n_mle, n_ltm, n_lem, n_eqm, n_meq, n_bit, n_shl, n_b0, n_b1, n_sub, n_inT, nT, nF, lT, lF, eT, eF, not_false_eq_true, not_true_eq_false, sI_at, sI_c, sI_j, aI_at, aI_c, sL_at, sL_c, sL_j, true_and, and_true, not_true_eq_false, not_false_eq_true, forall_const, true_implies, false_implies, implies_true, if_true, if_false, ite_true, ite_false, Bool.not_eq_true, Bool.not_eq_false, Bool.true_eq_false, Bool.false_eq_true, false_and, and_false, or_true, true_or, false_or, or_false, evI_next hn]
      exact nxt
  have l0 := loop N 0 (by omega)
  rw [evI_0] at l0
  exact v_Days_everHolders_0 l0
/-- counting down from a day to one that has it: 0 for none -/
def dwN (f : Nat → Bool) : Nat → Nat
  | 0 => 0
  | n + 1 => if f n = true then n + 1 else dwN f n
theorem dwN_le (f : Nat → Bool) : ∀ n, dwN f n ≤ n
  | 0 => Nat.le_refl 0
  | n + 1 => by
    unfold dwN
    have := dwN_le f n
    split <;> omega
def prevI : Nat → Int32
  | 0 => nM
  | n + 1 => nI n
theorem prevI_step (n : Nat) : nI n + nM = prevI n := by
  cases n with
  | zero => rfl
  | succ n => exact n_addm n
def tkN (w : Wd) (d : Nat) : Bool := anyN w.v.n ((stt w d).sa 0)
theorem c_lastHeldDay {w : Wd} {I : MI} {L : ML} (hn : w.v.n ≤ 16) {b : Bool} {K : Int32 → Bool → MI → ML → Prop} (rows : ∀ e, e < 201 → rowC w e I L) (hK : K (prevI (dwN (nzB w) 201)) b I L) : CI m_Days_lastHeldDay [vr 11 165] b I L K := by
  have loop : ∀ n, n ≤ 201 → K (prevI (dwN (nzB w) n)) b I L → SW m_Days_lastHeldDay 4 [vr 11 165, vi (prevI n)] [] b I L (kI K) := by
    intro n
    induction n with
    | zero =>
      intro hi kk
      refine v_Days_lastHeldDay_4 ?_
      unfold prevI
      simp (disch := first | omega | assumption) only [n_lit, n_gLt, n_gLe, n_gEq, n_gEq2, n_gLe2, n_gLt2, n_m1, n_add, n_mul, n_lt, n_le, n_eq, n_cl, n_in, n_rem, n_mlt, n_mle, n_ltm, n_lem, n_eqm, n_meq, n_bit, n_shl, n_b0, n_b1, n_sub, n_inT, nT, nF, lT, lF, eT, eF, not_false_eq_true, not_true_eq_false, sI_at, sI_c, sI_j, aI_at, aI_c, sL_at, sL_c, sL_j, true_and, and_true, not_true_eq_false, not_false_eq_true, forall_const, true_implies, false_implies, implies_true, if_true, if_false, ite_true, ite_false, Bool.not_eq_true, Bool.not_eq_false, Bool.true_eq_false, Bool.false_eq_true, false_and, and_false, or_true, true_or, false_or, or_false]
      exact kk
    | succ n ih =>
      intro hi kk
      unfold dwN at kk
      refine v_Days_lastHeldDay_4 ?_
      show (nI n < 0 → _) ∧ _
      simp (disch := first | omega | assumption) only [n_lit, n_gLt, n_gLe, n_gEq, n_gEq2, n_gLe2, n_gLt2, n_m1, n_add, n_mul, n_lt, n_le, n_eq, n_cl, n_in, n_rem, n_mlt, n_mle, n_ltm, n_lem, n_eqm, n_meq, n_bit, n_shl, n_b0, n_b1, n_sub, n_inT, nT, nF, lT, lF, eT, eF, not_false_eq_true, not_true_eq_false, sI_at, sI_c, sI_j, aI_at, aI_c, sL_at, sL_c, sL_j, true_and, and_true, not_true_eq_false, not_false_eq_true, forall_const, true_implies, false_implies, implies_true, if_true, if_false, ite_true, ite_false, Bool.not_eq_true, Bool.not_eq_false, Bool.true_eq_false, Bool.false_eq_true, false_and, and_false, or_true, true_or, false_or, or_false, prevI]
      refine c_holdersOn (by omega) hn (rows n (by omega)) ?_
      by_cases c : hdI w n = nI 0
      · rw [if_neg (by unfold nzB; rw [decide_eq_false (not_not_intro c)]; exact Bool.false_ne_true)] at kk
        have nxt := ih (by omega) kk
        simp (disch := first | omega | assumption) only [n_lit, n_gLt, n_gLe, n_gEq, n_gEq2, n_gLe2, n_gLt2, n_m1, n_add, n_mul, n_lt, n_le, n_eq, n_cl, n_in, n_rem, n_mlt, n_mle, n_ltm, n_lem, n_eqm, n_meq, n_bit, n_shl, n_b0, n_b1, n_sub, n_inT, nT, nF, lT, lF, eT, eF, not_false_eq_true, not_true_eq_false, sI_at, sI_c, sI_j, aI_at, aI_c, sL_at, sL_c, sL_j, true_and, and_true, not_true_eq_false, not_false_eq_true, forall_const, true_implies, false_implies, implies_true, if_true, if_false, ite_true, ite_false, Bool.not_eq_true, Bool.not_eq_false, Bool.true_eq_false, Bool.false_eq_true, false_and, and_false, or_true, true_or, false_or, or_false, c, prevI_step]
        exact nxt
      · rw [if_pos (show nzB w n = true from decide_eq_true c)] at kk
        simp (disch := first | omega | assumption) only [n_lit, n_gLt, n_gLe, n_gEq, n_gEq2, n_gLe2, n_gLt2, n_m1, n_add, n_mul, n_lt, n_le, n_eq, n_cl, n_in, n_rem, n_mlt, n_mle, n_ltm, n_lem, n_eqm, n_meq, n_bit, n_shl, n_b0, n_b1, n_sub, n_inT, nT, nF, lT, lF, eT, eF, not_false_eq_true, not_true_eq_false, sI_at, sI_c, sI_j, aI_at, aI_c, sL_at, sL_c, sL_j, true_and, and_true, not_true_eq_false, not_false_eq_true, forall_const, true_implies, false_implies, implies_true, if_true, if_false, ite_true, ite_false, Bool.not_eq_true, Bool.not_eq_false, Bool.true_eq_false, Bool.false_eq_true, false_and, and_false, or_true, true_or, false_or, or_false, c]
        exact kk
  exact v_Days_lastHeldDay_0 (loop 201 (by omega) hK)
theorem c_quietFrom {w : Wd} {I : MI} {L : ML} (hn : w.v.n ≤ 16) {b : Bool} {K : Int32 → Bool → MI → ML → Prop} (rows : ∀ e, e < 201 → rowC w e I L) (hK : K (nI (dwN (tkN w) 201)) b I L) : CI m_Days_quietFrom [vr 11 165] b I L K := by
  have loop : ∀ n, n ≤ 201 → K (nI (dwN (tkN w) n)) b I L → SW m_Days_quietFrom 4 [vr 11 165, vi (nI n)] [] b I L (kI K) := by
    intro n
    induction n with
    | zero =>
      intro hi kk
      refine v_Days_quietFrom_4 ?_
      simp (disch := first | omega | assumption) only [n_lit, n_gLt, n_gLe, n_gEq, n_gEq2, n_gLe2, n_gLt2, n_m1, n_add, n_mul, n_lt, n_le, n_eq, n_cl, n_in, n_rem, n_mlt, n_mle, n_ltm, n_lem, n_eqm, n_meq, n_bit, n_shl, n_b0, n_b1, n_sub, n_inT, nT, nF, lT, lF, eT, eF, not_false_eq_true, not_true_eq_false, sI_at, sI_c, sI_j, aI_at, aI_c, sL_at, sL_c, sL_j, true_and, and_true, not_true_eq_false, not_false_eq_true, forall_const, true_implies, false_implies, implies_true, if_true, if_false, ite_true, ite_false, Bool.not_eq_true, Bool.not_eq_false, Bool.true_eq_false, Bool.false_eq_true, false_and, and_false, or_true, true_or, false_or, or_false]
      exact kk
    | succ n ih =>
      intro hi kk
      have e : I 168 n = bI w.v.n ((stt w n).sa 0) := bI_of (by omega) (fun i hi => (rows n (by omega)).1.2.1 i hi)
      have z : (I 168 n = nI 0) = (tkN w n = false) := by
        rw [e]
        exact bI_z (by omega)
      unfold dwN at kk
      refine v_Days_quietFrom_4 ?_
      cases c : tkN w n with
      | false =>
        rw [c] at z kk
        have nxt := ih (by omega) kk
        simp (disch := first | omega | assumption) only [n_lit, n_gLt, n_gLe, n_gEq, n_gEq2, n_gLe2, n_gLt2, n_m1, n_add, n_mul, n_lt, n_le, n_eq, n_cl, n_in, n_rem, n_mlt, n_mle, n_ltm, n_lem, n_eqm, n_meq, n_bit, n_shl, n_b0, n_b1, n_sub, n_inT, nT, nF, lT, lF, eT, eF, not_false_eq_true, not_true_eq_false, sI_at, sI_c, sI_j, aI_at, aI_c, sL_at, sL_c, sL_j, true_and, and_true, not_true_eq_false, not_false_eq_true, forall_const, true_implies, false_implies, implies_true, if_true, if_false, ite_true, ite_false, Bool.not_eq_true, Bool.not_eq_false, Bool.true_eq_false, Bool.false_eq_true, false_and, and_false, or_true, true_or, false_or, or_false, Nat.add_sub_cancel, z, n_addm]
        exact nxt
      | true =>
        rw [c] at z kk
        simp (disch := first | omega | assumption) only [n_lit, n_gLt, n_gLe, n_gEq, n_gEq2, n_gLe2, n_gLt2, n_m1, n_add, n_mul, n_lt, n_le, n_eq, n_cl, n_in, n_rem, n_mlt, n_mle, n_ltm, n_lem, n_eqm, n_meq, n_bit, n_shl, n_b0, n_b1, n_sub, n_inT, nT, nF, lT, lF, eT, eF, not_false_eq_true, not_true_eq_false, sI_at, sI_c, sI_j, aI_at, aI_c, sL_at, sL_c, sL_j, true_and, and_true, not_true_eq_false, not_false_eq_true, forall_const, true_implies, false_implies, implies_true, if_true, if_false, ite_true, ite_false, Bool.not_eq_true, Bool.not_eq_false, Bool.true_eq_false, Bool.false_eq_true, false_and, and_false, or_true, true_or, false_or, or_false, Nat.add_sub_cancel, z]
        exact kk
  exact v_Days_quietFrom_0 (loop 201 (by omega) hK)
/-- not the same on two days -/
def difB (w : Wd) (s p d : Nat) : Bool := ((stt w d).ha 0 p ^^ (stt w s).ha 0 p) || ((stt w d).ha 1 p ^^ (stt w s).ha 1 p)
def frmI (w : Wd) (s : Nat) : Int32 := bI w.v.n (fun p => !anyN (201 - s) (fun i => difB w s p (s + i)))
theorem dif_0 (w : Wd) (s p : Nat) : difB w s p s = false := by unfold difB; rw [Bool.xor_self, Bool.xor_self]; rfl
theorem c_firm {w : Wd} {s : Nat} {I : MI} {L : ML} (hn : w.v.n ≤ 16) (hs : s ≤ 200) (ev : I 154 0 = nI w.v.n) {b : Bool} {K : Int32 → Bool → MI → ML → Prop} (rows : ∀ e, e < 201 → rowC w e I L) (hK : K (frmI w s) b I L) : CI m_Days_firmFrom [vr 11 165, vi (nI s)] b I L (fun v b I L => CI m_Village_all [vr 19 154] b I L (fun u b I L => K (v &&& u) b I L)) := by
  have loop : ∀ n i, s + 1 + i + n = 201 → ∀ y : Int32, (∀ p, p < 32 → bt y p = (decide (p < w.v.n) && anyN (i + 1) (fun j => difB w s p (s + j)))) → SW m_Days_firmFrom 6 [vr 11 165, vi (nI s), vi y, vi (nI (s + 1 + i))] [] b I L (kI (fun v b I L => CI m_Village_all [vr 19 154] b I L (fun u b I L => K (v &&& u) b I L))) := by
    intro n
    induction n with
    | zero =>
      intro i hi y hy
      refine v_Days_firmFrom_6 ?_
      simp (disch := first | omega | assumption) only [n_lit, n_gLt, n_gLe, n_gEq, n_gEq2, n_gLe2, n_gLt2, n_m1, n_add, n_mul, n_lt, n_le, n_eq, n_cl, n_in, n_rem, n_mlt, n_mle, n_ltm, n_lem, n_eqm, n_meq, n_bit, n_shl, n_b0, n_b1, n_sub, n_inT, nT, nF, lT, lF, eT, eF, not_false_eq_true, not_true_eq_false, sI_at, sI_c, sI_j, aI_at, aI_c, sL_at, sL_c, sL_j, true_and, and_true, not_true_eq_false, not_false_eq_true, forall_const, true_implies, false_implies, implies_true, if_true, if_false, ite_true, ite_false, Bool.not_eq_true, Bool.not_eq_false, Bool.true_eq_false, Bool.false_eq_true, false_and, and_false, or_true, true_or, false_or, or_false]
      refine v_Village_all_0 ?_
      have e1 : 1 ≤ 2 ^ w.v.n := Nat.one_le_two_pow
      have e : (y ^^^ nM) &&& nI (2 ^ w.v.n - 1) = frmI w s := bI_of (by omega) (fun p hp => by
        rw [b_and, b_xor, b_m1 p hp, Bool.xor_true, hy p hp, b_nI, Nat.testBit_two_pow_sub_one, decide_eq_true hp, show 201 - s = i + 1 by omega]
        cases decide (p < w.v.n) <;> simp)
      simp (disch := first | omega | assumption) only [n_lit, n_gLt, n_gLe, n_gEq, n_gEq2, n_gLe2, n_gLt2, n_m1, n_add, n_mul, n_lt, n_le, n_eq, n_cl, n_in, n_rem, n_mlt, n_mle, n_ltm, n_lem, n_eqm, n_meq, n_bit, n_shl, n_b0, n_b1, n_sub, n_inT, nT, nF, lT, lF, eT, eF, not_false_eq_true, not_true_eq_false, sI_at, sI_c, sI_j, aI_at, aI_c, sL_at, sL_c, sL_j, true_and, and_true, not_true_eq_false, not_false_eq_true, forall_const, true_implies, false_implies, implies_true, if_true, if_false, ite_true, ite_false, Bool.not_eq_true, Bool.not_eq_false, Bool.true_eq_false, Bool.false_eq_true, false_and, and_false, or_true, true_or, false_or, or_false, ev, e]
      exact hK
    | succ n ih =>
      intro i hi y hy
      have r0 := rows s (by omega)
      have r1 := rows (s + 1 + i) (by omega)
      have nxt := ih (i + 1) (by omega) ((y ||| (I 167 (s + 1 + i) ^^^ I 167 s)) ||| (I 173 (s + 1 + i) ^^^ I 173 s)) (fun p hp => by
        have q1 := r0.1.1 p hp
        have q2 := r0.2.1.1 p hp
        have q3 := r1.1.1 p hp
        have q4 := r1.2.1.1 p hp
        simp only [Nat.reduceAdd] at q1 q2 q3 q4
        rw [b_or, b_or, b_xor, b_xor, q1, q2, q3, q4, hy p hp]
        show _ = (decide (p < w.v.n) && (anyN (i + 1) (fun j => difB w s p (s + j)) || difB w s p (s + (i + 1))))
        rw [show s + (i + 1) = s + 1 + i by omega]
        unfold difB
        cases decide (p < w.v.n) <;> simp [Bool.or_assoc])
      refine v_Days_firmFrom_6 ?_
      simp (disch := first | omega | assumption) only [n_lit, n_gLt, n_gLe, n_gEq, n_gEq2, n_gLe2, n_gLt2, n_m1, n_add, n_mul, n_lt, n_le, n_eq, n_cl, n_in, n_rem, n_mlt, n_mle, n_ltm, n_lem, n_eqm, n_meq, n_bit, n_shl, n_b0, n_b1, n_sub, n_inT, nT, nF, lT, lF, eT, eF, not_false_eq_true, not_true_eq_false, sI_at, sI_c, sI_j, aI_at, aI_c, sL_at, sL_c, sL_j, true_and, and_true, not_true_eq_false, not_false_eq_true, forall_const, true_implies, false_implies, implies_true, if_true, if_false, ite_true, ite_false, Bool.not_eq_true, Bool.not_eq_false, Bool.true_eq_false, Bool.false_eq_true, false_and, and_false, or_true, true_or, false_or, or_false]
      exact nxt
  refine v_Days_firmFrom_0 ?_
  have l0 := loop (200 - s) 0 (by omega) (nI 0) (fun p hp => by
    rw [b_0]
    show false = (decide (p < w.v.n) && (false || difB w s p (s + 0)))
    rw [Nat.add_zero, dif_0, Bool.or_false, Bool.and_false])
  rw [Nat.add_zero] at l0
  simp (disch := first | omega | assumption) only [n_lit, n_gLt, n_gLe, n_gEq, n_gEq2, n_gLe2, n_gLt2, n_m1, n_add, n_mul, n_lt, n_le, n_eq, n_cl, n_in, n_rem, n_mlt, n_mle, n_ltm, n_lem, n_eqm, n_meq, n_bit, n_shl, n_b0, n_b1, n_sub, n_inT, nT, nF, lT, lF, eT, eF, not_false_eq_true, not_true_eq_false, sI_at, sI_c, sI_j, aI_at, aI_c, sL_at, sL_c, sL_j, true_and, and_true, not_true_eq_false, not_false_eq_true, forall_const, true_implies, false_implies, implies_true, if_true, if_false, ite_true, ite_false, Bool.not_eq_true, Bool.not_eq_false, Bool.true_eq_false, Bool.false_eq_true, false_and, and_false, or_true, true_or, false_or, or_false]
  exact l0
