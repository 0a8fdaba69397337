/-! WHAT-IFS: turn -/
def setKd (v : Vil) (p d : Nat) : Vil := mkV v.n v.m v.sl v.tw v.td (fun q => if q = p then d else v.kd q) v.db v.fr v.to v.dy v.st
theorem setKd_back (v : Vil) (p c : Nat) : setKd (setKd v p c) p (v.kd p) = v := by
  have e : (fun q => if q = p then v.kd p else (if q = p then c else v.kd q)) = v.kd := by
    funext q
    by_cases h : q = p
    · rw [if_pos h, h]
    · rw [if_neg h, if_neg h]
  show mkV v.n v.m v.sl v.tw v.td (fun q => if q = p then v.kd p else (if q = p then c else v.kd q)) v.db v.fr v.to v.dy v.st = _
  rw [e]
  rfl
theorem setKd_ok {M : Nat} {v : Vil} {p d : Nat} (h : v.ok M) (h2 : d ≤ 5) : (setKd v p d).ok M := by
  obtain ⟨q1, q2, q3, q4, q5, q6, q7⟩ := h
  refine ⟨q1, q2, q3, q4, q5, fun q hq => ?_, q7⟩
  obtain ⟨z1, z2, z3⟩ := q6 q hq
  refine ⟨?_, z2, z3⟩
  show (if q = p then d else v.kd q) ≤ 5
  split <;> omega
theorem lifeP_kd {v : Vil} {m0 p d : Nat} {t : Tel} {x : Wi} {I : MI} {L : ML} (hp : p < 16) (h : lifeP v m0 t x I L) : lifeP (setKd v p d) m0 t x (sI I 155 p (nI d)) L := by
  obtain ⟨g1, g2, g3⟩ := h
  refine ⟨⟨?_, fun q hq => ?_, fun k hk => ?_⟩, givP_fr (fun j hj => by rw [sI_c (by omega)]) (sI_c (by omega)) (sI_c (by omega)) rfl g2, ?_⟩
  · rw [sI_c (by omega)]
    exact g1.1
  · refine ⟨?_, by rw [sI_c (by omega)]; exact (g1.2.1 q hq).2⟩
    show sI I 155 p (nI d) 155 q = nI (if q = p then d else v.kd q)
    by_cases c : q = p
    · subst c
      rw [if_pos rfl, sI_at]
    · rw [if_neg c, sI_j c]
      exact (g1.2.1 q hq).1
  · rw [sI_c (by omega), sI_c (by omega), sI_c (by omega), sI_c (by omega)]
    exact g1.2.2 k hk
  · unfold wiP at g3 ⊢
    rw [sI_c (by omega)]
    exact g3
def tuW (v : Vil) (t : Tel) (k p : Nat) : Wd := mkW (setKd v p k) v.m t wi0
def tuE (v : Vil) (t : Tel) (k p : Nat) : Nat := endN (tuW v t k p)
theorem tuE_le {v : Vil} {t : Tel} {k : Nat} (hn : v.n ≤ 16) (p : Nat) : tuE v t k p ≤ 16 := Nat.le_trans (endN_le _) hn
def qTu (e : Nat → Nat) (n : Nat) (a : Int32) : Int32 := if a = nI 0 then optI (lsN e n) else nI (lsV e (lsN e n))
theorem c_turn {v : Vil} {t : Tel} {k : Nat} {a : Int32} {I : MI} {L : ML} (hv : v.ok 41) (ht : t.ok) (hk : k ≤ 5) (l0 : lifeP v v.m t wi0 I L) {b : Bool} {K : Int32 → Bool → MI → ML → Prop} (hK : ∀ I' L', (∀ a, a < 154 ∨ 186 ≤ a → I' a = I a) → K (qTu (tuE v t k) v.n a) b I' L') : CI m_Search_bestTurned [vr 15 181, vi (nI k), vi a] b I L K := by
  have hn := hv.1.2
  have he := fun p => tuE_le (t := t) (k := k) hn p
  have loop : ∀ n i, i + n = v.n → ∀ (I1 : MI) (L1 : ML), (∀ a, a < 154 ∨ 186 ≤ a → I1 a = I a) → lifeP v v.m t wi0 I1 L1 → SW m_Search_bestTurned 10 [vr 15 181, vi (nI k), vi a, vi (optI (lsN (tuE v t k) i)), vi (nI (lsV (tuE v t k) (lsN (tuE v t k) i))), vi (nI i), un, un] [] b I1 L1 (kI K) := by
    intro n
    induction n with
    | zero =>
      intro i hi I1 L1 f1 l1
      obtain rfl : i = v.n := by omega
      have e1 := l1.1.1.1
      have kk := hK I1 L1 f1
      unfold qTu at kk
      refine v_Search_bestTurned_10 ?_
      simp (disch := first | omega | assumption) only [n_lit, n_gLt, n_gLe, n_gEq, n_gEq2, n_gLe2, n_gLt2, n_m1, n_add, n_mul, n_lt, n_le, n_eq, n_cl, n_in, n_rem, n_mlt, n_mle, n_ltm, n_lem, n_eqm, n_meq, n_bit, n_shl, n_b0, n_b1, n_sub, n_inT, nT, nF, lT, lF, eT, eF, not_false_eq_true, not_true_eq_false, sI_at, sI_c, sI_j, aI_at, aI_c, sL_at, sL_c, sL_j, true_and, and_true, not_true_eq_false, not_false_eq_true, forall_const, true_implies, false_implies, implies_true, if_true, if_false, ite_true, ite_false, Bool.not_eq_true, Bool.not_eq_false, Bool.true_eq_false, Bool.false_eq_true, false_and, and_false, or_true, true_or, false_or, or_false, e1]
      by_cases c : a = nI 0
      · rw [if_pos c] at kk
        exact ⟨fun _ => kk, fun z => absurd c z⟩
      · rw [if_neg c] at kk
        exact ⟨fun z => absurd z c, fun _ => kk⟩
    | succ n ih =>
      intro i hi I1 L1 f1 l1
      have e1 := l1.1.1.1
      have ek := (l1.1.2.1 i (by omega)).1
      simp only [Nat.reduceAdd] at ek
      have b1 := lsV_le he (lsN (tuE v t k) i)
      have b2 := he i
      obtain ⟨n1, n2⟩ := lsN_next (e := tuE v t k) (n := i) he
      have l2 := lifeP_kd (p := i) (d := k) (by omega) l1
      have W2 : WL (tuW v t k i) (sI I1 155 i (nI k)) L1 := ⟨_, _, _, _, rfl, setKd_ok hv hk, ht, wi0_ok, l2⟩
      refine v_Search_bestTurned_10 ?_
      simp (disch := first | omega | assumption) only [n_lit, n_gLt, n_gLe, n_gEq, n_gEq2, n_gLe2, n_gLt2, n_m1, n_add, n_mul, n_lt, n_le, n_eq, n_cl, n_in, n_rem, n_mlt, n_mle, n_ltm, n_lem, n_eqm, n_meq, n_bit, n_shl, n_b0, n_b1, n_sub, n_inT, nT, nF, lT, lF, eT, eF, not_false_eq_true, not_true_eq_false, sI_at, sI_c, sI_j, aI_at, aI_c, sL_at, sL_c, sL_j, true_and, and_true, not_true_eq_false, not_false_eq_true, forall_const, true_implies, false_implies, implies_true, if_true, if_false, ite_true, ite_false, Bool.not_eq_true, Bool.not_eq_false, Bool.true_eq_false, Bool.false_eq_true, false_and, and_false, or_true, true_or, false_or, or_false, e1]
      refine c_endHolders W2 (fun I3 L3 f3 m3 => ?_)
      have l3 := lifeP_fr (I' := I3) (L' := L3) (fun a q1 q2 => f3 a (by omega)) (fun a ha => m3 a (by omega) (by omega) (by omega)) l2
      have l4 := lifeP_kd (p := i) (d := v.kd i) (by omega) l3
      rw [setKd_back] at l4
      have nxt := ih (i + 1) (by omega) _ L3 (fun a ha => by rw [sI_c (by omega), f3 a (by omega), sI_c (by omega), f1 a ha]) l4
      rw [← ek] at nxt
      show (nI _ ≤ nI (tuE v t k i) → _) ∧ (¬ nI _ ≤ nI (tuE v t k i) → _)
      by_cases c : lsV (tuE v t k) (lsN (tuE v t k) i) ≤ tuE v t k i
      · rw [n1 c] at nxt
        simp (disch := first | omega | assumption) only [n_lit, n_gLt, n_gLe, n_gEq, n_gEq2, n_gLe2, n_gLt2, n_m1, n_add, n_mul, n_lt, n_le, n_eq, n_cl, n_in, n_rem, n_mlt, n_mle, n_ltm, n_lem, n_eqm, n_meq, n_bit, n_shl, n_b0, n_b1, n_sub, n_inT, nT, nF, lT, lF, eT, eF, not_false_eq_true, not_true_eq_false, sI_at, sI_c, sI_j, aI_at, aI_c, sL_at, sL_c, sL_j, true_and, and_true, not_true_eq_false, not_false_eq_true, forall_const, true_implies, false_implies, implies_true, if_true, if_false, ite_true, ite_false, Bool.not_eq_true, Bool.not_eq_false, Bool.true_eq_false, Bool.false_eq_true, false_and, and_false, or_true, true_or, false_or, or_false, c]
        exact nxt
      · rw [n2 c] at nxt
        simp (disch := first | omega | assumption) only [n_lit, n_gLt, n_gLe, n_gEq, n_gEq2, n_gLe2, n_gLt2, n_m1, n_add, n_mul, n_lt, n_le, n_eq, n_cl, n_in, n_rem, n_mlt, n_mle, n_ltm, n_lem, n_eqm, n_meq, n_bit, n_shl, n_b0, n_b1, n_sub, n_inT, nT, nF, lT, lF, eT, eF, not_false_eq_true, not_true_eq_false, sI_at, sI_c, sI_j, aI_at, aI_c, sL_at, sL_c, sL_j, true_and, and_true, not_true_eq_false, not_false_eq_true, forall_const, true_implies, false_implies, implies_true, if_true, if_false, ite_true, ite_false, Bool.not_eq_true, Bool.not_eq_false, Bool.true_eq_false, Bool.false_eq_true, false_and, and_false, or_true, true_or, false_or, or_false, c]
        exact nxt
  exact v_Search_bestTurned_0 (loop v.n 0 (by omega) I L (fun a _ => rfl) l0)
