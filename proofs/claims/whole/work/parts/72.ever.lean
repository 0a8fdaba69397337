/-! WHAT-IFS: who ever holds, also when the run stopped at its ring -/
theorem hold_alike {w : Wd} {a d p : Nat} (hp : p < w.v.n) (h : alike w (stt w a) (stt w d)) : hold w a p = hold w d p := by
  have h0 := (h 0 (by omega) p hp).1.1
  have h1 := (h 1 (by omega) p hp).1.1
  unfold hold
  rw [h0, h1]
theorem ev_stop {w : Wd} (ok : w.v.ok 41) (hs : w.still) {N : Nat} (hN : N ≤ 201) (h1 : rgU w N = none → N = 201) (h2 : ∀ r, rgU w N = some r → N = r.1 + r.2 + 1) : evI w N = evI w 201 := by
  cases e : rgU w N with
  | none => rw [h1 e]
  | some r =>
    obtain ⟨a, l⟩ := r
    have hr := h2 _ e
    obtain ⟨q1, q2, q3, q4⟩ := rgU_some e
    have al := (alk_iff ok).mp q4
    refine bI_cong (fun p hp => ?_)
    have per := period_in (fun t ht => (ok.2.2.2.2.2.2 t ht).1) hs q1 (show a < a + l by omega) al
    cases c : anyN N (fun e => hold w e p) with
    | true =>
      obtain ⟨i, hi, h⟩ := anyN_iff.mp c
      exact (anyN_iff.mpr ⟨i, by omega, h⟩).symm
    | false =>
      have c := anyN_no.mp c
      refine (anyN_no.mpr (fun i hi => ?_)).symm
      obtain ⟨e', h3, h4, h5⟩ := per i
      rw [← hold_alike hp h5]
      exact c e' (by omega)
theorem c_ever {w : Wd} {b : Bool} {I : MI} {L : ML} {K : Int32 → Bool → MI → ML → Prop} (W : WL w I L) (hs : w.still) (hK : ∀ I' L', (∀ a, a < 165 ∨ 181 ≤ a → I' a = I a) → (∀ a, a ≠ 169 → a ≠ 175 → a ≠ 179 → L' a = L a) → K (evI w 201) b I' L') : CI m_Search_everHolders [vr 15 181] b I L K := by
  have hn := W.vil.2.1.2
  refine v_Search_everHolders_0 ?_
  refine c_live (w := w) (s0 := 0) (U := 201) (by omega) (by omega) (Or.inr ⟨by omega, rfl⟩) (Or.inr rfl) W (fun e he => absurd he (Nat.not_lt_zero _)) (by omega) (fun N I2 L2 f2 l2 n1 n2 rows R r6 _ hst => ?_)
  obtain ⟨s1, s2⟩ := hst rfl
  have kk := hK I2 L2 f2 l2
  rw [← ev_stop W.vil.2 hs n2 s1 s2] at kk
  have h0 : 0 < N := by
    cases e : rgU w N with
    | none => rw [s1 e]; omega
    | some r => rw [s2 r e]; omega
  exact c_everHolders hn n2 h0 rows (r6 h0) kk
def rW (w : Wd) : Option (Nat × Nat) := rgU w 201
theorem cm_everOf {v : Vil} {t : Tel} {x : Wi} {o : Nat} {w : Wd} {I : MI} {L : ML} (W : WM v t x o w I L) {b : Bool} {K : Int32 → Bool → MI → ML → Prop} (hK : ∀ I' L', frM I I' → (∀ a, a ≠ 201 → L' a = L a) → (I' 186 39 = rdI (rW w) ∧ I' 186 40 = rlI (rW w)) → K (evI w 201) b I' L') : CI m_M_everOf [vr 22 186] b I L K := by
  have hn := W.1.2.1.1.2
  refine v_M_everOf_0 ?_
  simp (disch := first | omega | assumption) only [n_lit, n_gLt, n_gLe, n_gEq, n_gEq2, n_gLe2, n_gLt2, n_m1, n_add, n_mul, n_lt, n_le, n_eq, n_cl, n_in, n_rem, n_mlt, n_mle, n_ltm, n_lem, n_eqm, n_meq, n_bit, n_shl, n_b0, n_b1, n_sub, n_inT, nT, nF, lT, lF, eT, eF, not_false_eq_true, not_true_eq_false, sI_at, sI_c, sI_j, aI_at, aI_c, sL_at, sL_c, sL_j, true_and, and_true, not_true_eq_false, not_false_eq_true, forall_const, true_implies, false_implies, implies_true, if_true, if_false, ite_true, ite_false, Bool.not_eq_true, Bool.not_eq_false, Bool.true_eq_false, Bool.false_eq_true, false_and, and_false, or_true, true_or, false_or, or_false]
  refine cm_runs W (Or.inr rfl) (fun N I1 L1 f1 l1 n1 D R hN _ => ?_)
  have hN := hN rfl
  have r1 := (rgM_d R).1
  have r2 := (rgM_d R).2
  rw [hN] at r1 r2
  have kk := hK I1 L1 f1 l1 ⟨r1, r2⟩
  have W1 := W.frM f1 (l1 186 (by decide))
  have D := D.2.2.2.1
  clear R r1 r2
  subst hN
  have loop : ∀ n i, i + n = 201 → SW m_M_everOf 9 [vr 22 186, vi (evI w i), vi (nI i)] [] b I1 L1 (kI K) := by
    intro n
    induction n with
    | zero =>
      intro i hi
      obtain rfl : i = 201 := by omega
      refine v_M_everOf_9 ?_
      simp (disch := first | omega | assumption) only [n_lit, n_gLt, n_gLe, n_gEq, n_gEq2, n_gLe2, n_gLt2, n_m1, n_add, n_mul, n_lt, n_le, n_eq, n_cl, n_in, n_rem, n_mlt, n_mle, n_ltm, n_lem, n_eqm, n_meq, n_bit, n_shl, n_b0, n_b1, n_sub, n_inT, nT, nF, lT, lF, eT, eF, not_false_eq_true, not_true_eq_false, sI_at, sI_c, sI_j, aI_at, aI_c, sL_at, sL_c, sL_j, true_and, and_true, not_true_eq_false, not_false_eq_true, forall_const, true_implies, false_implies, implies_true, if_true, if_false, ite_true, ite_false, Bool.not_eq_true, Bool.not_eq_false, Bool.true_eq_false, Bool.false_eq_true, false_and, and_false, or_true, true_or, false_or, or_false]
      exact kk
    | succ n ih =>
      intro i hi
      have nxt := ih (i + 1) (by omega)
      refine v_M_everOf_9 ?_
      simp (disch := first | omega | assumption) only [n_lit, n_gLt, n_gLe, n_gEq, n_gEq2, n_gLe2, n_gLt2, n_m1, n_add, n_mul, n_lt, n_le, n_eq, n_cl, n_in, n_rem, n_mlt, n_mle, n_ltm, n_lem, n_eqm, n_meq, n_bit, n_shl, n_b0, n_b1, n_sub, n_inT, nT, nF, lT, lF, eT, eF, not_false_eq_true, not_true_eq_false, sI_at, sI_c, sI_j, aI_at, aI_c, sL_at, sL_c, sL_j, true_and, and_true, not_true_eq_false, not_false_eq_true, forall_const, true_implies, false_implies, implies_true, if_true, if_false, ite_true, ite_false, Bool.not_eq_true, Bool.not_eq_false, Bool.true_eq_false, Bool.false_eq_true, false_and, and_false, or_true, true_or, false_or, or_false]
      refine cm_holdersOf (u := nI 0) (by omega) W1 (D i (by omega)) ?_
      rw [if_pos rfl, evI_next hn]
      exact nxt
  have l0 := loop 201 0 (by omega)
  rw [evI_0] at l0
  exact l0
