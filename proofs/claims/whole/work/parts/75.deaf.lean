/-! WHAT-IFS: deaf -/
def setDb (v : Vil) (p d : Nat) : Vil := mkV v.n v.m v.sl v.tw v.td v.kd (fun q => if q = p then d else v.db q) v.fr v.to v.dy v.st
theorem setDb_2 (v : Vil) (p c d : Nat) : setDb (setDb v p c) p d = setDb v p d := by
  have e : (fun q => if q = p then d else (if q = p then c else v.db q)) = (fun q => if q = p then d else v.db q) := by
    funext q
    by_cases h : q = p
    · rw [if_pos h, if_pos h]
    · rw [if_neg h, if_neg h, if_neg h]
  show mkV v.n v.m v.sl v.tw v.td v.kd (fun q => if q = p then d else (if q = p then c else v.db q)) v.fr v.to v.dy v.st = _
  rw [e]
  rfl
theorem setDb_ok {M : Nat} {v : Vil} {p d : Nat} (h : v.ok M) (h1 : 1 ≤ d) (h2 : d ≤ 99) : (setDb v p d).ok M := by
  obtain ⟨q1, q2, q3, q4, q5, q6, q7⟩ := h
  refine ⟨q1, q2, q3, q4, q5, fun q hq => ?_, q7⟩
  obtain ⟨z1, z2, z3⟩ := q6 q hq
  refine ⟨z1, ?_⟩
  show 1 ≤ (if q = p then d else v.db q) ∧ (if q = p then d else v.db q) ≤ 99
  split <;> omega
theorem lifeP_db {v : Vil} {m0 p d : Nat} {t : Tel} {x : Wi} {I : MI} {L : ML} (hp : p < 16) (h : lifeP v m0 t x I L) : lifeP (setDb v p d) m0 t x (sI I 156 p (nI d)) L := by
  obtain ⟨g1, g2, g3⟩ := h
  refine ⟨⟨?_, fun q hq => ?_, fun k hk => ?_⟩, givP_fr (fun j hj => by rw [sI_c (by omega)]) (sI_c (by omega)) (sI_c (by omega)) rfl g2, ?_⟩
  · rw [sI_c (by omega)]
    exact g1.1
  · rw [sI_c (by omega)]
    refine ⟨(g1.2.1 q hq).1, ?_⟩
    show sI I 156 p (nI d) 156 q = nI (if q = p then d else v.db q)
    by_cases c : q = p
    · subst c
      rw [if_pos rfl, sI_at]
    · rw [if_neg c, sI_j c]
      exact (g1.2.1 q hq).2
  · rw [sI_c (by omega), sI_c (by omega), sI_c (by omega), sI_c (by omega)]
    exact g1.2.2 k hk
  · unfold wiP at g3 ⊢
    rw [sI_c (by omega)]
    exact g3
theorem lifeP_fr {v : Vil} {m0 : Nat} {t : Tel} {x : Wi} {I I' : MI} {L L' : ML} (h1 : ∀ a, 154 ≤ a → a < 165 → I' a = I a) (h2 : ∀ a, a = 161 ∨ a = 164 → L' a = L a) (h : lifeP v m0 t x I L) : lifeP v m0 t x I' L' := by
  obtain ⟨g1, g2, g3⟩ := h
  refine ⟨vilC_fr (fun a q1 q2 => h1 a (by omega) (by omega)) g1, givP_fr (fun j _ => by rw [h1 161 (by omega) (by omega)]) (h1 162 (by omega) (by omega)) (h1 163 (by omega) (by omega)) (h2 164 (by omega)) g2, ?_⟩
  unfold wiP at g3 ⊢
  rw [h1 161 (by omega) (by omega), h2 161 (by omega)]
  exact g3
def dfW (v : Vil) (t : Tel) (p d : Nat) : Wd := mkW (setDb v p d) v.m t wi0
def dfB (v : Vil) (t : Tel) (p d : Nat) : Bool := !anyN 201 (fun e => hold (dfW v t p d) e p)
theorem df_bit {v : Vil} {t : Tel} {p d : Nat} (hn : v.n ≤ 16) (hp : p < v.n) : bt (evI (dfW v t p d) 201) p = !dfB v t p d := by
  unfold evI dfB
  have hp' : p < (dfW v t p d).v.n := hp
  rw [bI_bit _ (show (dfW v t p d).v.n ≤ 32 from Nat.le_trans hn (by omega)), decide_eq_true hp', Bool.true_and, Bool.not_not]
theorem c_deaf {v : Vil} {t : Tel} {p : Nat} {I : MI} {L : ML} (hv : v.ok 41) (ht : t.ok) (hp : p < v.n) (l0 : lifeP v v.m t wi0 I L) {b : Bool} {K : Int32 → Bool → MI → ML → Prop} (hK : ∀ I' L', (∀ a, a < 154 ∨ 186 ≤ a → I' a = I a) → K (optI (fstN (dfB v t p) 99 1)) b I' L') : CI m_Search_leastDeafDoubt [vr 15 181, vi (nI p)] b I L K := by
  have hn := hv.1.2
  have loop : ∀ n i, i + n = 100 → 1 ≤ i → ∀ (u : Vil) (I1 : MI) (L1 : ML), (∀ d, setDb u p d = setDb v p d) → (∀ a, a < 154 ∨ 186 ≤ a → I1 a = I a) → lifeP u v.m t wi0 I1 L1 → (∀ I' L', (∀ a, a < 154 ∨ 186 ≤ a → I' a = I a) → K (optI (fstN (dfB v t p) n i)) b I' L') → SW m_Search_leastDeafDoubt 2 [vr 15 181, vi (nI p), vi (nI i)] [] b I1 L1 (kI K) := by
    intro n
    induction n with
    | zero =>
      intro i hi h1 u I1 L1 hu f1 l1 kk
      obtain rfl : i = 100 := by omega
      refine v_Search_leastDeafDoubt_2 ?_
      simp (disch := first | omega | assumption) only [n_lit, n_gLt, n_gLe, n_gEq, n_gEq2, n_gLe2, n_gLt2, n_m1, n_add, n_mul, n_lt, n_le, n_eq, n_cl, n_in, n_rem, n_mlt, n_mle, n_ltm, n_lem, n_eqm, n_meq, n_bit, n_shl, n_b0, n_b1, n_sub, n_inT, nT, nF, lT, lF, eT, eF, not_false_eq_true, not_true_eq_false, sI_at, sI_c, sI_j, aI_at, aI_c, sL_at, sL_c, sL_j, true_and, and_true, not_true_eq_false, not_false_eq_true, forall_const, true_implies, false_implies, implies_true, if_true, if_false, ite_true, ite_false, Bool.not_eq_true, Bool.not_eq_false, Bool.true_eq_false, Bool.false_eq_true, false_and, and_false, or_true, true_or, false_or, or_false]
      exact kk I1 L1 f1
    | succ n ih =>
      intro i hi h1 u I1 L1 hu f1 l1 kk
      have l2 := lifeP_db (p := p) (d := i) (by omega) l1
      rw [hu i] at l2
      have W2 : WL (dfW v t p i) (sI I1 156 p (nI i)) L1 := ⟨_, _, _, _, rfl, setDb_ok hv h1 (by omega), ht, wi0_ok, l2⟩
      refine v_Search_leastDeafDoubt_2 ?_
      simp (disch := first | omega | assumption) only [n_lit, n_gLt, n_gLe, n_gEq, n_gEq2, n_gLe2, n_gLt2, n_m1, n_add, n_mul, n_lt, n_le, n_eq, n_cl, n_in, n_rem, n_mlt, n_mle, n_ltm, n_lem, n_eqm, n_meq, n_bit, n_shl, n_b0, n_b1, n_sub, n_inT, nT, nF, lT, lF, eT, eF, not_false_eq_true, not_true_eq_false, sI_at, sI_c, sI_j, aI_at, aI_c, sL_at, sL_c, sL_j, true_and, and_true, not_true_eq_false, not_false_eq_true, forall_const, true_implies, false_implies, implies_true, if_true, if_false, ite_true, ite_false, Bool.not_eq_true, Bool.not_eq_false, Bool.true_eq_false, Bool.false_eq_true, false_and, and_false, or_true, true_or, false_or, or_false]
      refine c_ever W2 W2.still (fun I3 L3 f3 m3 => ?_)
      have fr : ∀ a, a < 154 ∨ 186 ≤ a → I3 a = I a := fun a ha => by rw [f3 a (by omega), sI_c (by omega), f1 a ha]
      have l3 := lifeP_fr (I' := I3) (L' := L3) (fun a q1 q2 => f3 a (by omega)) (fun a ha => m3 a (by omega) (by omega) (by omega)) l2
      have eb := df_bit (t := t) (d := i) hn hp
      unfold fstN at kk
      cases c : dfB v t p i with
      | true =>
        rw [c] at eb
        have kk := kk I3 L3 fr
        rw [if_pos c] at kk
        simp (disch := first | omega | assumption) only [n_lit, n_gLt, n_gLe, n_gEq, n_gEq2, n_gLe2, n_gLt2, n_m1, n_add, n_mul, n_lt, n_le, n_eq, n_cl, n_in, n_rem, n_mlt, n_mle, n_ltm, n_lem, n_eqm, n_meq, n_bit, n_shl, n_b0, n_b1, n_sub, n_inT, nT, nF, lT, lF, eT, eF, not_false_eq_true, not_true_eq_false, sI_at, sI_c, sI_j, aI_at, aI_c, sL_at, sL_c, sL_j, true_and, and_true, not_true_eq_false, not_false_eq_true, forall_const, true_implies, false_implies, implies_true, if_true, if_false, ite_true, ite_false, Bool.not_eq_true, Bool.not_eq_false, Bool.true_eq_false, Bool.false_eq_true, false_and, and_false, or_true, true_or, false_or, or_false, eb, Bool.not_true, Bool.toNat_false]
        exact kk
      | false =>
        rw [c] at eb
        have nxt := ih (i + 1) (by omega) (by omega) _ I3 L3 (fun d => setDb_2 v p i d) fr l3 (fun I' L' f => by
          have kk := kk I' L' f
          rw [if_neg (by rw [c]; exact Bool.false_ne_true)] at kk
          exact kk)
        simp (disch := first | omega | assumption) only [n_lit, n_gLt, n_gLe, n_gEq, n_gEq2, n_gLe2, n_gLt2, n_m1, n_add, n_mul, n_lt, n_le, n_eq, n_cl, n_in, n_rem, n_mlt, n_mle, n_ltm, n_lem, n_eqm, n_meq, n_bit, n_shl, n_b0, n_b1, n_sub, n_inT, nT, nF, lT, lF, eT, eF, not_false_eq_true, not_true_eq_false, sI_at, sI_c, sI_j, aI_at, aI_c, sL_at, sL_c, sL_j, true_and, and_true, not_true_eq_false, not_false_eq_true, forall_const, true_implies, false_implies, implies_true, if_true, if_false, ite_true, ite_false, Bool.not_eq_true, Bool.not_eq_false, Bool.true_eq_false, Bool.false_eq_true, false_and, and_false, or_true, true_or, false_or, or_false, eb, Bool.not_false, Bool.toNat_true]
        exact nxt
  exact v_Search_leastDeafDoubt_0 (loop 99 1 (by omega) (by omega) v I L (fun _ => rfl) (fun a _ => rfl) l0 hK)
