/-! WHAT-IFS: key -/
theorem l_one {k i : Nat} (hk : k < 64) (hi : i < 64) : bl ((1 : Int64) <<< ((nI k).toInt64 &&& 63)) i = decide (i = k) := by
  rw [l_shl k hk _ hi]
  by_cases c : k ≤ i
  · rw [decide_eq_true c, Bool.true_and, l_1 _ (by omega)]
    exact decide_eq_decide.mpr ⟨fun _ => by omega, fun _ => by omega⟩
  · rw [decide_eq_false c, Bool.false_and, decide_eq_false (by omega)]
/-- the first of the least ones -/
def lsN (e : Nat → Nat) : Nat → Option Nat
  | 0 => none
  | n + 1 => match lsN e n with
    | none => some n
    | some j => if e n < e j then some n else some j
def lsV (e : Nat → Nat) : Option Nat → Nat
  | none => 1000
  | some j => e j
theorem lsN_next {e : Nat → Nat} {n : Nat} (he : ∀ i, e i ≤ 16) : (lsV e (lsN e n) ≤ e n → lsN e (n + 1) = lsN e n) ∧ (¬ lsV e (lsN e n) ≤ e n → lsN e (n + 1) = some n) := by
  have h0 := he n
  cases h : lsN e n with
  | none =>
    have g : lsN e (n + 1) = some n := by
      unfold lsN
      rw [h]
    exact ⟨fun q => absurd (show 1000 ≤ e n from q) (by omega), fun _ => g⟩
  | some j =>
    have g : lsN e (n + 1) = if e n < e j then some n else some j := by
      unfold lsN
      rw [h]
    rw [g]
    have h1 := he j
    show (e j ≤ e n → _) ∧ (¬ e j ≤ e n → _)
    exact ⟨fun q => if_neg (by omega), fun q => if_pos (by omega)⟩
theorem lsV_le {e : Nat → Nat} (he : ∀ i, e i ≤ 16) (o : Option Nat) : lsV e o ≤ 1000 := by
  cases o with
  | none => exact Nat.le_refl _
  | some j => exact Nat.le_trans (he j) (by omega)
def Wi.wdd (x : Wi) (g : Nat → Bool) : Wi := mkX x.al x.bg x.dn x.df x.dt x.si g x.ba x.bf
theorem lif_dd {B : Bk} {a1 a2 : Int32} {x : Wi} {g : Nat → Bool} {I : MI} {L : ML} {m : Int64} (hm : ∀ p, p < 64 → bl m p = g p) (h : lif B a1 a2 x I L) : lif B a1 a2 (x.wdd g) I (sL L 161 12 m) := by
  obtain ⟨g1, g2, g3⟩ := h
  refine ⟨g1, givP_fr (fun j hj => rfl) rfl rfl (sL_c (by omega)) g2, ?_⟩
  unfold wiP at g3 ⊢
  obtain ⟨z1, z2, z3, z4, z5, z6, z7, z8⟩ := g3
  refine ⟨z1, z2, z3, z4, z5, ?_, ?_, z8⟩
  · rw [sL_at]
    exact hm
  · rw [sL_j (by omega)]
    exact z7
theorem wdd_ok {x : Wi} (h : x.ok) (g : Nat → Bool) : (x.wdd g).ok := h
theorem WM_dd {v : Vil} {t : Tel} {x : Wi} {g : Nat → Bool} {o : Nat} {w : Wd} {I : MI} {L : ML} {m : Int64} (hm : ∀ p, p < 64 → bl m p = g p) (hg : g v.m = false) (h : WM v t x o w I L) : WM v t (x.wdd g) o (mkW w.v v.m t (x.wdd g)) I (sL L 186 20 m) := by
  obtain ⟨⟨a1, a2, a3, a4, a5⟩, b1, c1, d1, e1⟩ := h
  refine ⟨⟨rfl, a2, a3, a4, wdd_ok a5 g⟩, b1, c1, ?_, ?_⟩
  · unfold rxP at d1 ⊢
    obtain ⟨z1, z2, z3, z4, z5, z6, z7, z8⟩ := d1
    refine ⟨z1, z2, z3, z4, z5, ?_, ?_, z8⟩
    · rw [sL_at]
      exact hm
    · rw [sL_j (by omega)]
      exact z7
  · unfold vmod at e1 ⊢
    obtain ⟨y1, y2, y3, y4, y5⟩ := e1
    refine ⟨y1, y2, y3, y4, ?_⟩
    rcases y5 with y5 | ⟨q1, q2, q3, q4, q5, q6⟩
    · exact Or.inl y5
    · exact Or.inr ⟨q1, q2, q3, q4, hg, q6⟩
def kyP (B : Bk) (a1 a2 : Int32) (p : Nat) : Nat := endN (B.wx a1 a2 (siX (fun q => decide (q = p))))
def kyT (B : Bk) (a1 a2 : Int32) (k : Nat) : Nat := endN (B.wx a1 a2 (wi0.wdd (fun q => decide (q = k))))
theorem c_bestSilent {B : Bk} {a1 a2 : Int32} {I : MI} {L : ML} (ok : B.ok) (g2 : tkB B a1 a2 = true) (hn : (B.wd a1 a2).v.n ≤ 16) (l0 : lif B a1 a2 (siX (fun _ => false)) I L) {b : Bool} {K : Int32 → Bool → MI → ML → Prop} (hK : ∀ I' L', (∀ a, a < 154 ∨ 186 ≤ a → I' a = I a) → K (optI (lsN (kyP B a1 a2) (B.wd a1 a2).v.n)) b I' L') : CI m_Search_bestSilent [vr 15 181] b I L K := by
  have he : ∀ i, kyP B a1 a2 i ≤ 16 := fun i => Nat.le_trans (endN_le _) hn
  have loop : ∀ n i, i + n = (B.wd a1 a2).v.n → ∀ (f : Nat → Bool) (I1 : MI) (L1 : ML), (∀ a, a < 154 ∨ 186 ≤ a → I1 a = I a) → lif B a1 a2 (siX f) I1 L1 → SW m_Search_bestSilent 8 [vr 15 181, vi (optI (lsN (kyP B a1 a2) i)), vi (nI (lsV (kyP B a1 a2) (lsN (kyP B a1 a2) i))), vi (nI i), un] [] b I1 L1 (kI K) := by
    intro n
    induction n with
    | zero =>
      intro i hi f I1 L1 f1 l1
      obtain rfl : i = (B.wd a1 a2).v.n := by omega
      have e1 : I1 154 0 = nI (B.wd a1 a2).v.n := l1.1.1.1
      refine v_Search_bestSilent_8 ?_
      simp (disch := first | omega | assumption) only [n_lit, n_gLt, n_gLe, n_gEq, n_gEq2, n_gLe2, n_gLt2, n_m1, n_add, n_mul, n_lt, n_le, n_eq, n_cl, n_in, n_rem, n_mlt, n_mle, n_ltm, n_lem, n_eqm, n_meq, n_bit, n_shl, n_b0, n_b1, n_sub, n_inT, nT, nF, lT, lF, eT, eF, not_false_eq_true, not_true_eq_false, sI_at, sI_c, sI_j, aI_at, aI_c, sL_at, sL_c, sL_j, true_and, and_true, not_true_eq_false, not_false_eq_true, forall_const, true_implies, false_implies, implies_true, if_true, if_false, ite_true, ite_false, Bool.not_eq_true, Bool.not_eq_false, Bool.true_eq_false, Bool.false_eq_true, false_and, and_false, or_true, true_or, false_or, or_false, e1]
      exact hK I1 L1 f1
    | succ n ih =>
      intro i hi f I1 L1 f1 l1
      have e1 : I1 154 0 = nI (B.wd a1 a2).v.n := l1.1.1.1
      have b1 := lsV_le he (lsN (kyP B a1 a2) i)
      have b2 := he i
      obtain ⟨n1, n2⟩ := lsN_next (e := kyP B a1 a2) (n := i) he
      refine v_Search_bestSilent_8 ?_
      simp (disch := first | omega | assumption) only [n_lit, n_gLt, n_gLe, n_gEq, n_gEq2, n_gLe2, n_gLt2, n_m1, n_add, n_mul, n_lt, n_le, n_eq, n_cl, n_in, n_rem, n_mlt, n_mle, n_ltm, n_lem, n_eqm, n_meq, n_bit, n_shl, n_b0, n_b1, n_sub, n_inT, nT, nF, lT, lF, eT, eF, not_false_eq_true, not_true_eq_false, sI_at, sI_c, sI_j, aI_at, aI_c, sL_at, sL_c, sL_j, true_and, and_true, not_true_eq_false, not_false_eq_true, forall_const, true_implies, false_implies, implies_true, if_true, if_false, ite_true, ite_false, Bool.not_eq_true, Bool.not_eq_false, Bool.true_eq_false, Bool.false_eq_true, false_and, and_false, or_true, true_or, false_or, or_false, e1]
      refine v_Given_silence_0 ?_
      have l2 := lif_si (g := fun q => decide (q = i)) (m := nI (2 ^ i)) (fun q hq => by
        rw [b_2p hq]
        exact decide_eq_decide.mpr ⟨fun z => z.symm, fun z => z.symm⟩) l1
      refine c_endHolders (lif_W ok g2 (siX_ok _) l2) (fun I3 L3 f3 m3 => ?_)
      have l3 := lif_fr (I' := I3) (L' := L3) (fun a q1 q2 => f3 a (by omega)) (fun a ha => m3 a (by omega) (by omega) (by omega)) l2
      have nxt := ih (i + 1) (by omega) _ I3 L3 (fun a ha => by rw [f3 a (by omega), sI_c (by omega), f1 a ha]) l3
      show (nI _ ≤ nI (kyP B a1 a2 i) → _) ∧ (¬ nI _ ≤ nI (kyP B a1 a2 i) → _)
      by_cases c : lsV (kyP B a1 a2) (lsN (kyP B a1 a2) i) ≤ kyP B a1 a2 i
      · rw [n1 c] at nxt
        simp (disch := first | omega | assumption) only [n_lit, n_gLt, n_gLe, n_gEq, n_gEq2, n_gLe2, n_gLt2, n_m1, n_add, n_mul, n_lt, n_le, n_eq, n_cl, n_in, n_rem, n_mlt, n_mle, n_ltm, n_lem, n_eqm, n_meq, n_bit, n_shl, n_b0, n_b1, n_sub, n_inT, nT, nF, lT, lF, eT, eF, not_false_eq_true, not_true_eq_false, sI_at, sI_c, sI_j, aI_at, aI_c, sL_at, sL_c, sL_j, true_and, and_true, not_true_eq_false, not_false_eq_true, forall_const, true_implies, false_implies, implies_true, if_true, if_false, ite_true, ite_false, Bool.not_eq_true, Bool.not_eq_false, Bool.true_eq_false, Bool.false_eq_true, false_and, and_false, or_true, true_or, false_or, or_false, c]
        exact nxt
      · rw [n2 c] at nxt
        simp (disch := first | omega | assumption) only [n_lit, n_gLt, n_gLe, n_gEq, n_gEq2, n_gLe2, n_gLt2, n_m1, n_add, n_mul, n_lt, n_le, n_eq, n_cl, n_in, n_rem, n_mlt, n_mle, n_ltm, n_lem, n_eqm, n_meq, n_bit, n_shl, n_b0, n_b1, n_sub, n_inT, nT, nF, lT, lF, eT, eF, not_false_eq_true, not_true_eq_false, sI_at, sI_c, sI_j, aI_at, aI_c, sL_at, sL_c, sL_j, true_and, and_true, not_true_eq_false, not_false_eq_true, forall_const, true_implies, false_implies, implies_true, if_true, if_false, ite_true, ite_false, Bool.not_eq_true, Bool.not_eq_false, Bool.true_eq_false, Bool.false_eq_true, false_and, and_false, or_true, true_or, false_or, or_false, c]
        exact nxt
  exact v_Search_bestSilent_0 (loop (B.wd a1 a2).v.n 0 (by omega) _ I L (fun a _ => rfl) l0)
theorem c_bestWithoutTie {B : Bk} {a1 a2 : Int32} {I : MI} {L : ML} (ok : B.ok) (g2 : tkB B a1 a2 = true) (hn : (B.wd a1 a2).v.n ≤ 16) (hm : (B.wd a1 a2).v.m ≤ 41) (l0 : lif B a1 a2 wi0 I L) {b : Bool} {K : Int32 → Bool → MI → ML → Prop} (hK : ∀ I' L', (∀ a, a < 154 ∨ 186 ≤ a → I' a = I a) → K (optI (lsN (kyT B a1 a2) (B.wd a1 a2).v.m)) b I' L') : CI m_Search_bestWithoutTie [vr 15 181] b I L K := by
  have he : ∀ i, kyT B a1 a2 i ≤ 16 := fun i => Nat.le_trans (endN_le _) hn
  have loop : ∀ n i, i + n = (B.wd a1 a2).v.m → ∀ (f : Nat → Bool) (I1 : MI) (L1 : ML), (∀ a, a < 154 ∨ 186 ≤ a → I1 a = I a) → lif B a1 a2 (wi0.wdd f) I1 L1 → SW m_Search_bestWithoutTie 8 [vr 15 181, vi (optI (lsN (kyT B a1 a2) i)), vi (nI (lsV (kyT B a1 a2) (lsN (kyT B a1 a2) i))), vi (nI i), un] [] b I1 L1 (kI K) := by
    intro n
    induction n with
    | zero =>
      intro i hi f I1 L1 f1 l1
      obtain rfl : i = (B.wd a1 a2).v.m := by omega
      have e1 : I1 154 3 = nI (B.wd a1 a2).v.m := l1.1.1.2.1
      refine v_Search_bestWithoutTie_8 ?_
      simp (disch := first | omega | assumption) only [n_lit, n_gLt, n_gLe, n_gEq, n_gEq2, n_gLe2, n_gLt2, n_m1, n_add, n_mul, n_lt, n_le, n_eq, n_cl, n_in, n_rem, n_mlt, n_mle, n_ltm, n_lem, n_eqm, n_meq, n_bit, n_shl, n_b0, n_b1, n_sub, n_inT, nT, nF, lT, lF, eT, eF, not_false_eq_true, not_true_eq_false, sI_at, sI_c, sI_j, aI_at, aI_c, sL_at, sL_c, sL_j, true_and, and_true, not_true_eq_false, not_false_eq_true, forall_const, true_implies, false_implies, implies_true, if_true, if_false, ite_true, ite_false, Bool.not_eq_true, Bool.not_eq_false, Bool.true_eq_false, Bool.false_eq_true, false_and, and_false, or_true, true_or, false_or, or_false, e1]
      exact hK I1 L1 f1
    | succ n ih =>
      intro i hi f I1 L1 f1 l1
      have e1 : I1 154 3 = nI (B.wd a1 a2).v.m := l1.1.1.2.1
      have b1 := lsV_le he (lsN (kyT B a1 a2) i)
      have b2 := he i
      obtain ⟨n1, n2⟩ := lsN_next (e := kyT B a1 a2) (n := i) he
      refine v_Search_bestWithoutTie_8 ?_
      simp (disch := first | omega | assumption) only [n_lit, n_gLt, n_gLe, n_gEq, n_gEq2, n_gLe2, n_gLt2, n_m1, n_add, n_mul, n_lt, n_le, n_eq, n_cl, n_in, n_rem, n_mlt, n_mle, n_ltm, n_lem, n_eqm, n_meq, n_bit, n_shl, n_b0, n_b1, n_sub, n_inT, nT, nF, lT, lF, eT, eF, not_false_eq_true, not_true_eq_false, sI_at, sI_c, sI_j, aI_at, aI_c, sL_at, sL_c, sL_j, true_and, and_true, not_true_eq_false, not_false_eq_true, forall_const, true_implies, false_implies, implies_true, if_true, if_false, ite_true, ite_false, Bool.not_eq_true, Bool.not_eq_false, Bool.true_eq_false, Bool.false_eq_true, false_and, and_false, or_true, true_or, false_or, or_false, e1]
      refine v_Given_kill_0 ?_
      have l2 : lif B a1 a2 (wi0.wdd (fun q => decide (q = i))) I1 (sL L1 161 12 ((1 : Int64) <<< ((nI i).toInt64 &&& 63))) := lif_dd (x := wi0.wdd f) (g := fun q => decide (q = i)) (fun q hq => l_one (by omega) hq) l1
      refine c_endHolders (lif_W ok g2 (wdd_ok wi0_ok _) l2) (fun I3 L3 f3 m3 => ?_)
      have l3 := lif_fr (I' := I3) (L' := L3) (fun a q1 q2 => f3 a (by omega)) (fun a ha => m3 a (by omega) (by omega) (by omega)) l2
      have nxt := ih (i + 1) (by omega) _ I3 L3 (fun a ha => by rw [f3 a (by omega), f1 a ha]) l3
      show (nI _ ≤ nI (kyT B a1 a2 i) → _) ∧ (¬ nI _ ≤ nI (kyT B a1 a2 i) → _)
      by_cases c : lsV (kyT B a1 a2) (lsN (kyT B a1 a2) i) ≤ kyT B a1 a2 i
      · rw [n1 c] at nxt
        simp (disch := first | omega | assumption) only [n_lit, n_gLt, n_gLe, n_gEq, n_gEq2, n_gLe2, n_gLt2, n_m1, n_add, n_mul, n_lt, n_le, n_eq, n_cl, n_in, n_rem, n_mlt, n_mle, n_ltm, n_lem, n_eqm, n_meq, n_bit, n_shl, n_b0, n_b1, n_sub, n_inT, nT, nF, lT, lF, eT, eF, not_false_eq_true, not_true_eq_false, sI_at, sI_c, sI_j, aI_at, aI_c, sL_at, sL_c, sL_j, true_and, and_true, not_true_eq_false, not_false_eq_true, forall_const, true_implies, false_implies, implies_true, if_true, if_false, ite_true, ite_false, Bool.not_eq_true, Bool.not_eq_false, Bool.true_eq_false, Bool.false_eq_true, false_and, and_false, or_true, true_or, false_or, or_false, c]
        exact nxt
      · rw [n2 c] at nxt
        simp (disch := first | omega | assumption) only [n_lit, n_gLt, n_gLe, n_gEq, n_gEq2, n_gLe2, n_gLt2, n_m1, n_add, n_mul, n_lt, n_le, n_eq, n_cl, n_in, n_rem, n_mlt, n_mle, n_ltm, n_lem, n_eqm, n_meq, n_bit, n_shl, n_b0, n_b1, n_sub, n_inT, nT, nF, lT, lF, eT, eF, not_false_eq_true, not_true_eq_false, sI_at, sI_c, sI_j, aI_at, aI_c, sL_at, sL_c, sL_j, true_and, and_true, not_true_eq_false, not_false_eq_true, forall_const, true_implies, false_implies, implies_true, if_true, if_false, ite_true, ite_false, Bool.not_eq_true, Bool.not_eq_false, Bool.true_eq_false, Bool.false_eq_true, false_and, and_false, or_true, true_or, false_or, or_false, c]
        exact nxt
  exact v_Search_bestWithoutTie_0 (loop (B.wd a1 a2).v.m 0 (by omega) _ I L (fun a _ => rfl) l0)
