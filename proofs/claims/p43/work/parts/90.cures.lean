/-! WHAT-IFS: cures -/
def cntL (P : Nat → Bool) : List Nat → Nat
  | [] => 0
  | x :: T => (P x).toNat + cntL P T
theorem c_cures {B : Bk} {a1 a2 : Int32} {day size : Nat} {I : MI} {L : ML} (ok : B.ok) (g2 : tkB B a1 a2 = true) (hn : (B.wd a1 a2).v.n ≤ 16) (hd : day ≤ 99) (hm : size ≤ 2) (l0 : lif B a1 a2 wi0 I L) {b : Bool} {K : Int32 → Bool → MI → ML → Prop} (hK : ∀ I' L', (∀ a, a < 154 ∨ 186 ≤ a → I' a = I a) → K (nI (cntL (cuP B a1 a2 day) (LsA (B.wd a1 a2).v.n size))) b I' L') : CI m_Search_howManyCures [vr 15 181, vi (nI day), vi (nI size)] b I L K := by
  have h16 : 2 ^ (B.wd a1 a2).v.n ≤ 2 ^ 16 := Nat.pow_le_pow_right (by decide) hn
  have p1 : 1 ≤ 2 ^ (B.wd a1 a2).v.n := Nat.one_le_two_pow
  have W0 : WL (B.wd a1 a2) I L := lif_W ok g2 wi0_ok l0
  have inner : ∀ s0 z, 2 ^ (B.wd a1 a2).v.n ≤ z → z < 9223372036854775808 → ∀ (S : List Nat) (i acc : Nat), wlk z S = true → (∀ x, x ∈ S → (s0 = day ∧ x ≠ 0 ∨ s0 = 0) ∧ x < 2 ^ (B.wd a1 a2).v.n) → i + S.length < 1000 → ∀ (f : Nat → Bool) (d t : Nat) (I1 : MI) (L1 : ML), (∀ a, a < 154 ∨ 186 ≤ a → I1 a = I a) → lif B a1 a2 (dnX f d t) I1 L1 → (∀ e, e < s0 → rowC (B.wd a1 a2) e I1 L1) → (∀ I' L', (∀ a, a < 154 ∨ 186 ≤ a → I' a = I a) → K (nI (acc + cntL (cuP B a1 a2 day) S)) b I' L') → SW m_Search_howManyCures 34 [vr 15 181, vi (nI day), un, vi (nI s0), vi (nI acc), vl (gN (S.headD z)), un, vi (nI i)] [] b I1 L1 (kI K) := by
    intro s0 z z3 z4 S
    induction S with
    | nil =>
      intro i acc _ _ hi f d t I1 L1 f1 l1 r1 kk
      have hi : i < 1000 := hi
      refine v_Search_howManyCures_34 ⟨fun q => absurd q (by rw [show (1000 : Int32) = nI 1000 from rfl, n_le (by omega) (by omega)]; omega), fun _ => c_all hn l1.1.1.1 ⟨fun _ => kk I1 L1 f1, fun q => absurd ?_ q⟩⟩
      show nI 0 < lg_cmp (gN z) _
      rw [l_64 (by omega), lg_gt z4 (by omega)]
      omega
    | cons x S ih =>
      intro i acc hw hx hi f d t I1 L1 f1 l1 r1 kk
      have hi : i + (S.length + 1) < 1000 := hi
      obtain ⟨x1, x2⟩ := hx x (List.mem_cons_self ..)
      unfold wlk at hw
      rw [Bool.and_eq_true, decide_eq_true_iff] at hw
      refine v_Search_howManyCures_34 ⟨fun q => absurd q (by rw [show (1000 : Int32) = nI 1000 from rfl, n_le (by omega) (by omega)]; omega), fun _ => c_all hn l1.1.1.1 ⟨fun q => absurd q ?_, fun _ => ?_⟩⟩
      · show ¬ nI 0 < lg_cmp (gN x) _
        rw [l_64 (by omega), lg_gt (by omega) (by omega)]
        omega
      show CV m_Given_deny [vr 12 161, vi (Int64.toInt32 (gN x)), _, _] b I1 L1 _
      rw [l_32]
      refine c_tryDeny ok g2 hd (by omega) x1 l1 r1 (fun I2 L2 f2 l2 r2 => ?_)
      have fr : ∀ a, a < 154 ∨ 186 ≤ a → I2 a = I a := fun a ha => (f2 a ha).trans (f1 a ha)
      have nxt : ∀ y : Nat, y = (cuP B a1 a2 day x).toNat → SW m_Search_howManyCures 34 [vr 15 181, vi (nI day), un, vi (nI s0), vi (nI acc + nI y), vl (nxL (gN x)), un, vi (nI i + nI 1)] [] b I2 L2 (kI K) := fun y hy => by
        rw [hw.1, n_add, n_add]
        refine ih (i + 1) (acc + y) hw.2 (fun y hy => hx y (List.mem_cons_of_mem _ hy)) (by omega) _ _ _ I2 L2 fr l2 r2 (fun I' L' f' => ?_)
        have kk := kk I' L' f'
        rw [show acc + cntL (cuP B a1 a2 day) (x :: S) = acc + y + cntL (cuP B a1 a2 day) S by rw [hy, Nat.add_assoc]; rfl] at kk
        exact kk
      cases c : cuP B a1 a2 day x with
      | true => exact ⟨fun q => absurd q (by decide), fun _ => c_nextSet (nxt 1 (by rw [c]; rfl))⟩
      | false => exact ⟨fun _ => c_nextSet (nxt 0 (by rw [c]; rfl)), fun q => absurd rfl q⟩
  obtain ⟨w1, w2, w3, w4, w5, w6⟩ := setsP_of (sets_16 _ (Nat.lt_succ_of_le hn) size (by omega))
  have go : ∀ s0, (s0 = day ∧ 1 ≤ size ∨ s0 = 0) → ∀ (I1 : MI) (L1 : ML), (∀ a, a < 154 ∨ 186 ≤ a → I1 a = I a) → lif B a1 a2 wi0 I1 L1 → (∀ e, e < s0 → rowC (B.wd a1 a2) e I1 L1) → SW m_Search_howManyCures 34 [vr 15 181, vi (nI day), un, vi (nI s0), vi (nI 0), vl (gN (2 ^ size - 1)), un, vi (nI 0)] [] b I1 L1 (kI K) := by
    intro s0 hs I1 L1 f1 l1 r1
    have g := inner s0 _ w5 w6 (LsA (B.wd a1 a2).v.n size) 0 0 w1 (fun x hx => ⟨?_, w3 x hx⟩) (by omega) (fun _ => false) 0 0 I1 L1 f1 l1 r1 (fun I' L' f' => ?_)
    · rw [w2] at g
      exact g
    · rcases hs with ⟨h1, h2⟩ | h
      · have := LsA_pos _ _ _ h2 hx
        exact Or.inl ⟨h1, by omega⟩
      · exact Or.inr h
    · rw [Nat.zero_add]
      exact hK I' L' f'
  refine v_Search_howManyCures_0 ⟨fun q => ?_, fun q => ?_⟩
  · have h1 : 1 ≤ size := by
      rcases Nat.eq_zero_or_pos size with e | e
      · subst e
        exact absurd rfl q
      · exact e
    refine c_days (d := day) W0 (by omega) (fun I2 L2 f2 m2 r2 => c_firstSet (by omega) ?_)
    exact go day (Or.inl ⟨rfl, h1⟩) I2 L2 (fun a ha => f2 a (by omega)) (lif_fr (fun a q1 q2 => f2 a (by omega)) (fun a ha => m2 a (by omega) (by omega) (by omega)) l0) r2
  · refine c_days (d := 0) W0 (by omega) (fun I2 L2 f2 m2 r2 => c_firstSet (by omega) ?_)
    exact go 0 (Or.inr rfl) I2 L2 (fun a ha => f2 a (by omega)) (lif_fr (fun a q1 q2 => f2 a (by omega)) (fun a ha => m2 a (by omega) (by omega) (by omega)) l0) r2
theorem oc_cures : ∀ a1 a2 a3 a4 : Int32, OpC m_S_cures [vi a1, vi a2, vi a3, vi a4] (fun B => if (inR a3 100 && (inR a4 3 && tkB B a1 a2)) = true then nI (cntL (cuP B a1 a2 a3.toNatClampNeg) (LsA (B.wd a1 a2).v.n a4.toNatClampNeg)) else nM) := by
  intro a1 a2 a3 a4
  intro B I b L K ok hc k
  dsimp only at k
  · refine v_S_cures_0 (c_onDay (n := 99) (by decide) (fun g1 => ?_) (fun g1 => ?_))
    · obtain ⟨d, hd, rfl⟩ := (inR_iff (by decide)).mp g1
      cases g5 : inR a4 3 with
      | true =>
        obtain ⟨q, hq, rfl⟩ := (inR_iff (by decide)).mp g5
        simp (disch := first | omega | assumption) only [n_lit, n_gLt, n_gLe, n_gEq, n_gEq2, n_gLe2, n_gLt2, n_m1, n_add, n_mul, n_lt, n_le, n_eq, n_cl, n_in, n_rem, n_mlt, n_mle, n_ltm, n_lem, n_eqm, n_meq, n_bit, n_shl, n_b0, n_b1, n_sub, n_inT, nT, nF, lT, lF, eT, eF, not_false_eq_true, not_true_eq_false, sI_at, sI_c, sI_j, aI_at, aI_c, sL_at, sL_c, sL_j, true_and, and_true, not_true_eq_false, not_false_eq_true, forall_const, true_implies, false_implies, implies_true, if_true, if_false, ite_true, ite_false, Bool.not_eq_true, Bool.not_eq_false, Bool.true_eq_false, Bool.false_eq_true, false_and, and_false, or_true, true_or, false_or, or_false]
        refine c_takeW ok hc (fun g2 I1 L1 f1 W1 l0 => ?_) (fun g2 => ?_)
        · have hn := W1.vil.2.1.2
          simp (disch := first | omega | assumption) only [n_lit, n_gLt, n_gLe, n_gEq, n_gEq2, n_gLe2, n_gLt2, n_m1, n_add, n_mul, n_lt, n_le, n_eq, n_cl, n_in, n_rem, n_mlt, n_mle, n_ltm, n_lem, n_eqm, n_meq, n_bit, n_shl, n_b0, n_b1, n_sub, n_inT, nT, nF, lT, lF, eT, eF, not_false_eq_true, not_true_eq_false, sI_at, sI_c, sI_j, aI_at, aI_c, sL_at, sL_c, sL_j, true_and, and_true, not_true_eq_false, not_false_eq_true, forall_const, true_implies, false_implies, implies_true, if_true, if_false, ite_true, ite_false, Bool.not_eq_true, Bool.not_eq_false, Bool.true_eq_false, Bool.false_eq_true, false_and, and_false, or_true, true_or, false_or, or_false]
          refine c_cures ok g2 hn (by omega) (by omega) l0 (fun I2 L2 f2 => ?_)
          have kk := k b I2 L2 (fun a ha => (f2 a (by omega)).trans (f1 a (by omega)))
          rw [g1, g2, g5, n_cl (by omega), n_cl (by omega)] at kk
          exact kk
        · have kk := k b I L (fun _ _ => rfl)
          rw [g2, Bool.and_false, Bool.and_false] at kk
          simp (disch := first | omega | assumption) only [n_lit, n_gLt, n_gLe, n_gEq, n_gEq2, n_gLe2, n_gLt2, n_m1, n_add, n_mul, n_lt, n_le, n_eq, n_cl, n_in, n_rem, n_mlt, n_mle, n_ltm, n_lem, n_eqm, n_meq, n_bit, n_shl, n_b0, n_b1, n_sub, n_inT, nT, nF, lT, lF, eT, eF, not_false_eq_true, not_true_eq_false, sI_at, sI_c, sI_j, aI_at, aI_c, sL_at, sL_c, sL_j, true_and, and_true, not_true_eq_false, not_false_eq_true, forall_const, true_implies, false_implies, implies_true, if_true, if_false, ite_true, ite_false, Bool.not_eq_true, Bool.not_eq_false, Bool.true_eq_false, Bool.false_eq_true, false_and, and_false, or_true, true_or, false_or, or_false] at kk
          simp (disch := first | omega | assumption) only [n_lit, n_gLt, n_gLe, n_gEq, n_gEq2, n_gLe2, n_gLt2, n_m1, n_add, n_mul, n_lt, n_le, n_eq, n_cl, n_in, n_rem, n_mlt, n_mle, n_ltm, n_lem, n_eqm, n_meq, n_bit, n_shl, n_b0, n_b1, n_sub, n_inT, nT, nF, lT, lF, eT, eF, not_false_eq_true, not_true_eq_false, sI_at, sI_c, sI_j, aI_at, aI_c, sL_at, sL_c, sL_j, true_and, and_true, not_true_eq_false, not_false_eq_true, forall_const, true_implies, false_implies, implies_true, if_true, if_false, ite_true, ite_false, Bool.not_eq_true, Bool.not_eq_false, Bool.true_eq_false, Bool.false_eq_true, false_and, and_false, or_true, true_or, false_or, or_false]
          exact kk
      | false =>
        have kk := k b I L (fun _ _ => rfl)
        rw [g5, Bool.false_and, Bool.and_false] at kk
        simp (disch := first | omega | assumption) only [n_lit, n_gLt, n_gLe, n_gEq, n_gEq2, n_gLe2, n_gLt2, n_m1, n_add, n_mul, n_lt, n_le, n_eq, n_cl, n_in, n_rem, n_mlt, n_mle, n_ltm, n_lem, n_eqm, n_meq, n_bit, n_shl, n_b0, n_b1, n_sub, n_inT, nT, nF, lT, lF, eT, eF, not_false_eq_true, not_true_eq_false, sI_at, sI_c, sI_j, aI_at, aI_c, sL_at, sL_c, sL_j, true_and, and_true, not_true_eq_false, not_false_eq_true, forall_const, true_implies, false_implies, implies_true, if_true, if_false, ite_true, ite_false, Bool.not_eq_true, Bool.not_eq_false, Bool.true_eq_false, Bool.false_eq_true, false_and, and_false, or_true, true_or, false_or, or_false] at kk
        rcases inR_out (by decide) g5 with q | ⟨j, q1, q2, rfl⟩
        · simp (disch := first | omega | assumption) only [n_lit, n_gLt, n_gLe, n_gEq, n_gEq2, n_gLe2, n_gLt2, n_m1, n_add, n_mul, n_lt, n_le, n_eq, n_cl, n_in, n_rem, n_mlt, n_mle, n_ltm, n_lem, n_eqm, n_meq, n_bit, n_shl, n_b0, n_b1, n_sub, n_inT, nT, nF, lT, lF, eT, eF, not_false_eq_true, not_true_eq_false, sI_at, sI_c, sI_j, aI_at, aI_c, sL_at, sL_c, sL_j, true_and, and_true, not_true_eq_false, not_false_eq_true, forall_const, true_implies, false_implies, implies_true, if_true, if_false, ite_true, ite_false, Bool.not_eq_true, Bool.not_eq_false, Bool.true_eq_false, Bool.false_eq_true, false_and, and_false, or_true, true_or, false_or, or_false]
          exact kk
        · simp (disch := first | omega | assumption) only [n_lit, n_gLt, n_gLe, n_gEq, n_gEq2, n_gLe2, n_gLt2, n_m1, n_add, n_mul, n_lt, n_le, n_eq, n_cl, n_in, n_rem, n_mlt, n_mle, n_ltm, n_lem, n_eqm, n_meq, n_bit, n_shl, n_b0, n_b1, n_sub, n_inT, nT, nF, lT, lF, eT, eF, not_false_eq_true, not_true_eq_false, sI_at, sI_c, sI_j, aI_at, aI_c, sL_at, sL_c, sL_j, true_and, and_true, not_true_eq_false, not_false_eq_true, forall_const, true_implies, false_implies, implies_true, if_true, if_false, ite_true, ite_false, Bool.not_eq_true, Bool.not_eq_false, Bool.true_eq_false, Bool.false_eq_true, false_and, and_false, or_true, true_or, false_or, or_false]
          exact kk
    · have kk := k b I L (fun _ _ => rfl)
      rw [g1, Bool.false_and] at kk
      simp (disch := first | omega | assumption) only [n_lit, n_gLt, n_gLe, n_gEq, n_gEq2, n_gLe2, n_gLt2, n_m1, n_add, n_mul, n_lt, n_le, n_eq, n_cl, n_in, n_rem, n_mlt, n_mle, n_ltm, n_lem, n_eqm, n_meq, n_bit, n_shl, n_b0, n_b1, n_sub, n_inT, nT, nF, lT, lF, eT, eF, not_false_eq_true, not_true_eq_false, sI_at, sI_c, sI_j, aI_at, aI_c, sL_at, sL_c, sL_j, true_and, and_true, not_true_eq_false, not_false_eq_true, forall_const, true_implies, false_implies, implies_true, if_true, if_false, ite_true, ite_false, Bool.not_eq_true, Bool.not_eq_false, Bool.true_eq_false, Bool.false_eq_true, false_and, and_false, or_true, true_or, false_or, or_false] at kk
      simp (disch := first | omega | assumption) only [n_lit, n_gLt, n_gLe, n_gEq, n_gEq2, n_gLe2, n_gLt2, n_m1, n_add, n_mul, n_lt, n_le, n_eq, n_cl, n_in, n_rem, n_mlt, n_mle, n_ltm, n_lem, n_eqm, n_meq, n_bit, n_shl, n_b0, n_b1, n_sub, n_inT, nT, nF, lT, lF, eT, eF, not_false_eq_true, not_true_eq_false, sI_at, sI_c, sI_j, aI_at, aI_c, sL_at, sL_c, sL_j, true_and, and_true, not_true_eq_false, not_false_eq_true, forall_const, true_implies, false_implies, implies_true, if_true, if_false, ite_true, ite_false, Bool.not_eq_true, Bool.not_eq_false, Bool.true_eq_false, Bool.false_eq_true, false_and, and_false, or_true, true_or, false_or, or_false]
      exact kk
