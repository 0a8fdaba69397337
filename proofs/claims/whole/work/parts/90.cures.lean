/-! WHAT-IFS: cures -/
def cntL (P : Nat → Bool) : List Nat → Nat
  | [] => 0
  | x :: T => (P x).toNat + cntL P T
theorem c_cures {B : Bk} {a1 a2 : Int32} {day size : Nat} {I : MI} {L : ML} (ok : B.ok) (g2 : tkB B a1 a2 = true) (hn : (B.wd a1 a2).v.n ≤ 16) (hd : day ≤ 99) (hm : size ≤ 2) (l0 : lif B a1 a2 wi0 I L) {b : Bool} {K : Int32 → Bool → MI → ML → Prop} (hK : ∀ I' L', (∀ a, a < 154 ∨ 186 ≤ a → I' a = I a) → K (nI (cntL (cuP B a1 a2 day) (LsA (B.wd a1 a2).v.n size))) b I' L') : CI m_Search_howManyCures [vr 15 181, vi (nI day), vi (nI size)] b I L K := by
  have h16 : 2 ^ (B.wd a1 a2).v.n ≤ 2 ^ 16 := Nat.pow_le_pow_right (by decide) hn
  have p1 : 1 ≤ 2 ^ (B.wd a1 a2).v.n := Nat.one_le_two_pow
  have W0 : WL (B.wd a1 a2) I L := lif_W ok g2 wi0_ok l0
  have inner : ∀ s0 z, 2 ^ (B.wd a1 a2).v.n ≤ z → z < 9223372036854775808 → ∀ (S : List Nat) (i acc : Nat), wlk z S = true → (∀ x, x ∈ S → (s0 = day ∧ x ≠ 0 ∨ s0 = 0) ∧ x < 2 ^ (B.wd a1 a2).v.n) → i + S.length < 1000 → ∀ (f : Nat → Bool) (d t : Nat) (I1 : MI) (L1 : ML), (∀ a, a < 154 ∨ 186 ≤ a → I1 a = I a) → lif B a1 a2 (dnX f d t) I1 L1 → (∀ e, e < s0 → rowC (B.wd a1 a2) e I1 L1) → (∀ I' L', (∀ a, a < 154 ∨ 186 ≤ a → I' a = I a) → K (nI (acc + cntL (cuP B a1 a2 day) S)) b I' L') → SW m_Search_howManyCures 34 [vr 15 181, vi (nI day), un, vi (nI s0), vi (nI acc), vl (gN (S.headD z)), un, vi (nI i)] [] b I1 L1 (kI K) := by
    intro s0 z z3 z4 S
    induction S with
    | nil =>
      intro i acc _ _ hi f d t I1 L1 f1 l1 r1 kk
      have hi : i < 1000 := hi
      refine v_Search_howManyCures_34 ⟨fun q => absurd q (by rw [show (1000 : Int32) = nI 1000 from rfl, n_le (by omega) (by omega)]; omega), fun _ => c_all hn l1.1.1.1 ⟨fun _ => kk I1 L1 f1, fun q => absurd ?_ q⟩⟩
      show nI 0 < lg_cmp (gN z) _
      rw [l_64 (by omega), lg_gt z4 (by omega)]
      omega
    | cons x S ih =>
      intro i acc hw hx hi f d t I1 L1 f1 l1 r1 kk
      have hi : i + (S.length + 1) < 1000 := hi
      obtain ⟨x1, x2⟩ := hx x (List.mem_cons_self ..)
      unfold wlk at hw
      rw [Bool.and_eq_true, decide_eq_true_iff] at hw
      refine v_Search_howManyCures_34 ⟨fun q => absurd q (by rw [show (1000 : Int32) = nI 1000 from rfl, n_le (by omega) (by omega)]; omega), fun _ => c_all hn l1.1.1.1 ⟨fun q => absurd q ?_, fun _ => ?_⟩⟩
      · show ¬ nI 0 < lg_cmp (gN x) _
        rw [l_64 (by omega), lg_gt (by omega) (by omega)]
        omega
      show CV m_Given_deny [vr 12 161, vi (Int64.toInt32 (gN x)), _, _] b I1 L1 _
      rw [l_32]
      refine c_tryDeny ok g2 hd (by omega) x1 l1 r1 (fun I2 L2 f2 l2 r2 => ?_)
      have fr : ∀ a, a < 154 ∨ 186 ≤ a → I2 a = I a := fun a ha => (f2 a ha).trans (f1 a ha)
      have nxt : ∀ y : Nat, y = (cuP B a1 a2 day x).toNat → SW m_Search_howManyCures 34 [vr 15 181, vi (nI day), un, vi (nI s0), vi (nI acc + nI y), vl (nxL (gN x)), un, vi (nI i + nI 1)] [] b I2 L2 (kI K) := fun y hy => by
        rw [hw.1, n_add, n_add]
        refine ih (i + 1) (acc + y) hw.2 (fun y hy => hx y (List.mem_cons_of_mem _ hy)) (by omega) _ _ _ I2 L2 fr l2 r2 (fun I' L' f' => ?_)
        have kk := kk I' L' f'
        rw [show acc + cntL (cuP B a1 a2 day) (x :: S) = acc + y + cntL (cuP B a1 a2 day) S by rw [hy, Nat.add_assoc]; rfl] at kk
        exact kk
      cases c : cuP B a1 a2 day x with
      | true => exact ⟨fun q => absurd q (by decide), fun _ => c_nextSet (nxt 1 (by rw [c]; rfl))⟩
      | false => exact ⟨fun _ => c_nextSet (nxt 0 (by rw [c]; rfl)), fun q => absurd rfl q⟩
  obtain ⟨w1, w2, w3, w4, w5, w6⟩ := setsP_of (sets_16 _ (Nat.lt_succ_of_le hn) size (by omega))
  have go : ∀ s0, (s0 = day ∧ 1 ≤ size ∨ s0 = 0) → ∀ (I1 : MI) (L1 : ML), (∀ a, a < 154 ∨ 186 ≤ a → I1 a = I a) → lif B a1 a2 wi0 I1 L1 → (∀ e, e < s0 → rowC (B.wd a1 a2) e I1 L1) → SW m_Search_howManyCures 34 [vr 15 181, vi (nI day), un, vi (nI s0), vi (nI 0), vl (gN (2 ^ size - 1)), un, vi (nI 0)] [] b I1 L1 (kI K) := by
    intro s0 hs I1 L1 f1 l1 r1
    have g := inner s0 _ w5 w6 (LsA (B.wd a1 a2).v.n size) 0 0 w1 (fun x hx => ⟨?_, w3 x hx⟩) (by omega) (fun _ => false) 0 0 I1 L1 f1 l1 r1 (fun I' L' f' => ?_)
    · rw [w2] at g
      exact g
    · rcases hs with ⟨h1, h2⟩ | h
      · have := LsA_pos _ _ _ h2 hx
        exact Or.inl ⟨h1, by omega⟩
      · exact Or.inr h
    · rw [Nat.zero_add]
      exact hK I' L' f'
  refine v_Search_howManyCures_0 ⟨fun q => ?_, fun q => ?_⟩
  · have h1 : 1 ≤ size := by
      rcases Nat.eq_zero_or_pos size with e | e
      · subst e
        exact absurd rfl q
      · exact e
    refine c_days (d := day) W0 (by omega) (fun I2 L2 f2 m2 r2 => c_firstSet (by omega) ?_)
    exact go day (Or.inl ⟨rfl, h1⟩) I2 L2 (fun a ha => f2 a (by omega)) (lif_fr (fun a q1 q2 => f2 a (by omega)) (fun a ha => m2 a (by omega) (by omega) (by omega)) l0) r2
  · refine c_days (d := 0) W0 (by omega) (fun I2 L2 f2 m2 r2 => c_firstSet (by omega) ?_)
    exact go 0 (Or.inr rfl) I2 L2 (fun a ha => f2 a (by omega)) (lif_fr (fun a q1 q2 => f2 a (by omega)) (fun a ha => m2 a (by omega) (by omega) (by omega)) l0) r2
theorem cm_cures {B : Bk} {a1 a2 : Int32} {day size o : Nat} {I : MI} {L : ML} (hd : day ≤ 99) (hk : size ≤ 2) (W : WM (B.vl a1.toNatClampNeg) (B.tlOf a2) wi0 o (B.wd a1 a2) I L) (e15 : I 186 15 = nI 1) {b : Bool} {K : Int32 → Bool → MI → ML → Prop} (hK : ∀ I' L', mfr I I' → K (nI (cntL (cuP B a1 a2 day) (LsA (B.wd a1 a2).v.n size))) b I' L') : SW m_M_cures 42 [vr 22 186, un, un, un, vi (nI size), vi (nI 0), vi (nI 0)] [] b (sI I 186 14 (nI day)) L (kI K) := by
  have hn : (B.wd a1 a2).v.n ≤ 16 := W.1.2.1.1.2
  have h16 : 2 ^ (B.wd a1 a2).v.n ≤ 2 ^ 16 := Nat.pow_le_pow_right (by decide) hn
  have p1 : 1 ≤ 2 ^ (B.wd a1 a2).v.n := Nat.one_le_two_pow
  have loop : ∀ m i acc, i + m = 2 ^ (B.wd a1 a2).v.n → ∀ (f : Nat → Bool) (I1 : MI) (L1 : ML), mfr I I1 → WM (B.vl a1.toNatClampNeg) (B.tlOf a2) (dnX f day day) o (B.wx a1 a2 (dnX f day day)) I1 L1 → I1 186 14 = nI day → I1 186 15 = nI 1 → (∀ I' L', mfr I I' → K (nI (acc + cntL (cuP B a1 a2 day) ((List.range' i m).filter (fun x => decide (cntB x.testBit (B.wd a1 a2).v.n = size))))) b I' L') → SW m_M_cures 42 [vr 22 186, un, un, un, vi (nI size), vi (nI acc), vi (nI i)] [] b I1 L1 (kI K) := by
    intro m
    induction m with
    | zero =>
      intro i acc hi f I1 L1 f1 W1 e14 e15 kk
      refine v_M_cures_42 (cm_people W1 ⟨fun _ => kk I1 L1 f1, fun q => absurd ?_ q⟩)
      show (1 : Int32) <<< (nI (B.wd a1 a2).v.n &&& 31) ≤ nI i
      rw [n_2p hn, n_le (by omega) (by omega)]
      omega
    | succ m ih =>
      intro i acc hi f I1 L1 f1 W1 e14 e15 kk
      rw [List.range'_succ, List.filter_cons] at kk
      refine v_M_cures_42 (cm_people W1 ⟨fun q => absurd q ?_, fun _ => cm_bitsN hn (by omega) ?_⟩)
      · show ¬ (1 : Int32) <<< (nI (B.wd a1 a2).v.n &&& 31) ≤ nI i
        rw [n_2p hn, n_le (by omega) (by omega)]
        omega
      have hc := cntB_le i.testBit (B.wd a1 a2).v.n
      rw [show nI i + (1 : Int32) = nI (i + 1) from n_add i 1]
      rw [n_eq (by omega) (by omega)]
      refine ⟨fun c => ?_, fun c => ?_⟩
      · rw [if_pos (decide_eq_true c)] at kk
        have W2 := WM_dn (g := i.testBit) (df := day) (dt := day) (I' := sI I1 186 13 (nI i)) (L' := L1) (fun p hp => by rw [sI_at]; exact bt_nI hp) (fun j _ q _ _ => sI_j q) (by rw [sI_j (by omega)]; exact e14) ⟨1, by omega, by omega, by rw [sI_j (by omega)]; exact e15, by omega⟩ (sI_c (by omega)) rfl (by omega) (by omega) W1
        have W2 : WM (B.vl a1.toNatClampNeg) (B.tlOf a2) (dnX i.testBit day day) o (B.wx a1 a2 (dnX i.testBit day day)) (sI I1 186 13 (nI i)) L1 := W2
        refine cm_isClean W2 (fun I3 L3 f3 l3 => ?_)
        have W3 := W2.frM f3 (l3 186 (by decide))
        have fr : mfr I I3 := f1.trans (fun a ha => by rw [f3.1 a (by omega), sI_c (by omega)])
        have g14 : I3 186 14 = nI day := by rw [f3.2 14 (by omega) (by omega), sI_j (by omega)]; exact e14
        have g15 : I3 186 15 = nI 1 := by rw [f3.2 15 (by omega) (by omega), sI_j (by omega)]; exact e15
        have nxt : ∀ y : Nat, y = (cuP B a1 a2 day i).toNat → SW m_M_cures 42 [vr 22 186, un, un, un, vi (nI size), vi (nI acc + nI y), vi (nI (i + 1))] [] b I3 L3 (kI K) := fun y hy => by
          rw [n_add]
          refine ih (i + 1) (acc + y) (by omega) _ I3 L3 fr W3 g14 g15 (fun I' L' f' => ?_)
          have kk := kk I' L' f'
          rw [show ∀ T, acc + cntL (cuP B a1 a2 day) (i :: T) = acc + y + cntL (cuP B a1 a2 day) T from fun T => by rw [hy, Nat.add_assoc]; rfl] at kk
          exact kk
        cases cc : cuP B a1 a2 day i with
        | true =>
          have e : cleanB (B.wx a1 a2 (dnX i.testBit day day)) = true := cc
          rw [e]
          exact ⟨fun q => absurd q (by decide), fun _ => nxt 1 (by rw [cc]; rfl)⟩
        | false =>
          have e : cleanB (B.wx a1 a2 (dnX i.testBit day day)) = false := cc
          rw [e]
          exact ⟨fun _ => nxt 0 (by rw [cc]; rfl), fun q => absurd rfl q⟩
      · rw [if_neg (by rw [decide_eq_false c]; exact Bool.false_ne_true)] at kk
        exact ih (i + 1) acc (by omega) _ I1 L1 f1 W1 e14 e15 kk
  have W1 := WM_dn (f := fun _ => false) (d0 := 0) (t0 := 0) (g := fun _ => false) (df := day) (dt := day) (I' := sI I 186 14 (nI day)) (L' := L) (fun p hp => by rw [sI_j (by omega)]; exact W.2.2.2.1.2.2.1 p hp) (fun j _ _ q _ => sI_j q) (sI_at _ _ _ _) ⟨1, by omega, by omega, by rw [sI_j (by omega)]; exact e15, by omega⟩ (sI_c (by omega)) rfl (by omega) (by omega) W
  refine loop (2 ^ (B.wd a1 a2).v.n) 0 0 (by omega) _ _ L mfr_186 W1 (sI_at _ _ _ _) (by rw [sI_j (by omega)]; exact e15) (fun I' L' f' => ?_)
  rw [flt_s, Nat.zero_add]
  exact hK I' L' f'
theorem op_cures : H_cures := by
  intro a1 a2 a3 a4
  refine Op2.q (fun B => if (inR a3 100 && (inR a4 3 && tkB B a1 a2)) = true then nI (cntL (cuP B a1 a2 a3.toNatClampNeg) (LsA (B.wd a1 a2).v.n a4.toNatClampNeg)) else nM) (fun B I b L K ok hc k => ?_) (fun B I b L K ok hm k => ?_)
  · refine v_S_cures_0 (c_onDay (n := 99) (by decide) (fun g1 => ?_) (fun g1 => ?_))
    · obtain ⟨d, hd, rfl⟩ := (inR_iff (by decide)).mp g1
      cases g5 : inR a4 3 with
      | true =>
        obtain ⟨q, hq, rfl⟩ := (inR_iff (by decide)).mp g5
        simp (disch := first | omega | assumption) only [n_lit, n_gLt, n_gLe, n_gEq, n_gEq2, n_gLe2, n_gLt2, n_m1, n_add, n_mul, n_lt, n_le, n_eq, n_cl, n_in, n_rem, n_mlt, n_mle, n_ltm, n_lem, n_eqm, n_meq, n_bit, n_shl, n_b0, n_b1, n_sub, n_inT, nT, nF, lT, lF, eT, eF, not_false_eq_true, not_true_eq_false, sI_at, sI_c, sI_j, aI_at, aI_c, sL_at, sL_c, sL_j, true_and, and_true, not_true_eq_false, not_false_eq_true, forall_const, true_implies, false_implies, implies_true, if_true, if_false, ite_true, ite_false, Bool.not_eq_true, Bool.not_eq_false, Bool.true_eq_false, Bool.false_eq_true, false_and, and_false, or_true, true_or, false_or, or_false]
        refine c_takeW ok hc (fun g2 I1 L1 f1 W1 l0 => ?_) (fun g2 => ?_)
        · have hn := W1.vil.2.1.2
          simp (disch := first | omega | assumption) only [n_lit, n_gLt, n_gLe, n_gEq, n_gEq2, n_gLe2, n_gLt2, n_m1, n_add, n_mul, n_lt, n_le, n_eq, n_cl, n_in, n_rem, n_mlt, n_mle, n_ltm, n_lem, n_eqm, n_meq, n_bit, n_shl, n_b0, n_b1, n_sub, n_inT, nT, nF, lT, lF, eT, eF, not_false_eq_true, not_true_eq_false, sI_at, sI_c, sI_j, aI_at, aI_c, sL_at, sL_c, sL_j, true_and, and_true, not_true_eq_false, not_false_eq_true, forall_const, true_implies, false_implies, implies_true, if_true, if_false, ite_true, ite_false, Bool.not_eq_true, Bool.not_eq_false, Bool.true_eq_false, Bool.false_eq_true, false_and, and_false, or_true, true_or, false_or, or_false]
          refine c_cures ok g2 hn (by omega) (by omega) l0 (fun I2 L2 f2 => ?_)
          have kk := k b I2 L2 (fun a ha => (f2 a (by omega)).trans (f1 a (by omega)))
          rw [g1, g2, g5, n_cl (by omega), n_cl (by omega)] at kk
          exact kk
        · have kk := k b I L (fun _ _ => rfl)
          rw [g2, Bool.and_false, Bool.and_false] at kk
          simp (disch := first | omega | assumption) only [n_lit, n_gLt, n_gLe, n_gEq, n_gEq2, n_gLe2, n_gLt2, n_m1, n_add, n_mul, n_lt, n_le, n_eq, n_cl, n_in, n_rem, n_mlt, n_mle, n_ltm, n_lem, n_eqm, n_meq, n_bit, n_shl, n_b0, n_b1, n_sub, n_inT, nT, nF, lT, lF, eT, eF, not_false_eq_true, not_true_eq_false, sI_at, sI_c, sI_j, aI_at, aI_c, sL_at, sL_c, sL_j, true_and, and_true, not_true_eq_false, not_false_eq_true, forall_const, true_implies, false_implies, implies_true, if_true, if_false, ite_true, ite_false, Bool.not_eq_true, Bool.not_eq_false, Bool.true_eq_false, Bool.false_eq_true, false_and, and_false, or_true, true_or, false_or, or_false] at kk
          simp (disch := first | omega | assumption) only [n_lit, n_gLt, n_gLe, n_gEq, n_gEq2, n_gLe2, n_gLt2, n_m1, n_add, n_mul, n_lt, n_le, n_eq, n_cl, n_in, n_rem, n_mlt, n_mle, n_ltm, n_lem, n_eqm, n_meq, n_bit, n_shl, n_b0, n_b1, n_sub, n_inT, nT, nF, lT, lF, eT, eF, not_false_eq_true, not_true_eq_false, sI_at, sI_c, sI_j, aI_at, aI_c, sL_at, sL_c, sL_j, true_and, and_true, not_true_eq_false, not_false_eq_true, forall_const, true_implies, false_implies, implies_true, if_true, if_false, ite_true, ite_false, Bool.not_eq_true, Bool.not_eq_false, Bool.true_eq_false, Bool.false_eq_true, false_and, and_false, or_true, true_or, false_or, or_false]
          exact kk
      | false =>
        have kk := k b I L (fun _ _ => rfl)
        rw [g5, Bool.false_and, Bool.and_false] at kk
        simp (disch := first | omega | assumption) only [n_lit, n_gLt, n_gLe, n_gEq, n_gEq2, n_gLe2, n_gLt2, n_m1, n_add, n_mul, n_lt, n_le, n_eq, n_cl, n_in, n_rem, n_mlt, n_mle, n_ltm, n_lem, n_eqm, n_meq, n_bit, n_shl, n_b0, n_b1, n_sub, n_inT, nT, nF, lT, lF, eT, eF, not_false_eq_true, not_true_eq_false, sI_at, sI_c, sI_j, aI_at, aI_c, sL_at, sL_c, sL_j, true_and, and_true, not_true_eq_false, not_false_eq_true, forall_const, true_implies, false_implies, implies_true, if_true, if_false, ite_true, ite_false, Bool.not_eq_true, Bool.not_eq_false, Bool.true_eq_false, Bool.false_eq_true, false_and, and_false, or_true, true_or, false_or, or_false] at kk
        rcases inR_out (by decide) g5 with q | ⟨j, q1, q2, rfl⟩
        · simp (disch := first | omega | assumption) only [n_lit, n_gLt, n_gLe, n_gEq, n_gEq2, n_gLe2, n_gLt2, n_m1, n_add, n_mul, n_lt, n_le, n_eq, n_cl, n_in, n_rem, n_mlt, n_mle, n_ltm, n_lem, n_eqm, n_meq, n_bit, n_shl, n_b0, n_b1, n_sub, n_inT, nT, nF, lT, lF, eT, eF, not_false_eq_true, not_true_eq_false, sI_at, sI_c, sI_j, aI_at, aI_c, sL_at, sL_c, sL_j, true_and, and_true, not_true_eq_false, not_false_eq_true, forall_const, true_implies, false_implies, implies_true, if_true, if_false, ite_true, ite_false, Bool.not_eq_true, Bool.not_eq_false, Bool.true_eq_false, Bool.false_eq_true, false_and, and_false, or_true, true_or, false_or, or_false]
          exact kk
        · simp (disch := first | omega | assumption) only [n_lit, n_gLt, n_gLe, n_gEq, n_gEq2, n_gLe2, n_gLt2, n_m1, n_add, n_mul, n_lt, n_le, n_eq, n_cl, n_in, n_rem, n_mlt, n_mle, n_ltm, n_lem, n_eqm, n_meq, n_bit, n_shl, n_b0, n_b1, n_sub, n_inT, nT, nF, lT, lF, eT, eF, not_false_eq_true, not_true_eq_false, sI_at, sI_c, sI_j, aI_at, aI_c, sL_at, sL_c, sL_j, true_and, and_true, not_true_eq_false, not_false_eq_true, forall_const, true_implies, false_implies, implies_true, if_true, if_false, ite_true, ite_false, Bool.not_eq_true, Bool.not_eq_false, Bool.true_eq_false, Bool.false_eq_true, false_and, and_false, or_true, true_or, false_or, or_false]
          exact kk
    · have kk := k b I L (fun _ _ => rfl)
      rw [g1, Bool.false_and] at kk
      simp (disch := first | omega | assumption) only [n_lit, n_gLt, n_gLe, n_gEq, n_gEq2, n_gLe2, n_gLt2, n_m1, n_add, n_mul, n_lt, n_le, n_eq, n_cl, n_in, n_rem, n_mlt, n_mle, n_ltm, n_lem, n_eqm, n_meq, n_bit, n_shl, n_b0, n_b1, n_sub, n_inT, nT, nF, lT, lF, eT, eF, not_false_eq_true, not_true_eq_false, sI_at, sI_c, sI_j, aI_at, aI_c, sL_at, sL_c, sL_j, true_and, and_true, not_true_eq_false, not_false_eq_true, forall_const, true_implies, false_implies, implies_true, if_true, if_false, ite_true, ite_false, Bool.not_eq_true, Bool.not_eq_false, Bool.true_eq_false, Bool.false_eq_true, false_and, and_false, or_true, true_or, false_or, or_false] at kk
      simp (disch := first | omega | assumption) only [n_lit, n_gLt, n_gLe, n_gEq, n_gEq2, n_gLe2, n_gLt2, n_m1, n_add, n_mul, n_lt, n_le, n_eq, n_cl, n_in, n_rem, n_mlt, n_mle, n_ltm, n_lem, n_eqm, n_meq, n_bit, n_shl, n_b0, n_b1, n_sub, n_inT, nT, nF, lT, lF, eT, eF, not_false_eq_true, not_true_eq_false, sI_at, sI_c, sI_j, aI_at, aI_c, sL_at, sL_c, sL_j, true_and, and_true, not_true_eq_false, not_false_eq_true, forall_const, true_implies, false_implies, implies_true, if_true, if_false, ite_true, ite_false, Bool.not_eq_true, Bool.not_eq_false, Bool.true_eq_false, Bool.false_eq_true, false_and, and_false, or_true, true_or, false_or, or_false]
      exact kk
  · refine v_M_cures_0 (cm_isIn0 (n := 99) (by decide) (fun g1 => ?_) (fun g1 => ?_))
    · obtain ⟨d, hd, rfl⟩ := (inR_iff (by decide)).mp g1
      simp (disch := first | omega | assumption) only [n_lit, n_gLt, n_gLe, n_gEq, n_gEq2, n_gLe2, n_gLt2, n_m1, n_add, n_mul, n_lt, n_le, n_eq, n_cl, n_in, n_rem, n_mlt, n_mle, n_ltm, n_lem, n_eqm, n_meq, n_bit, n_shl, n_b0, n_b1, n_sub, n_inT, nT, nF, lT, lF, eT, eF, not_false_eq_true, not_true_eq_false, sI_at, sI_c, sI_j, aI_at, aI_c, sL_at, sL_c, sL_j, true_and, and_true, not_true_eq_false, not_false_eq_true, forall_const, true_implies, false_implies, implies_true, if_true, if_false, ite_true, ite_false, Bool.not_eq_true, Bool.not_eq_false, Bool.true_eq_false, Bool.false_eq_true, false_and, and_false, or_true, true_or, false_or, or_false]
      refine cm_isIn0 (n := 2) (by decide) (fun g5 => ?_) (fun g5 => ?_)
      · obtain ⟨q, hq, rfl⟩ := (inR_iff (by decide)).mp g5
        simp (disch := first | omega | assumption) only [n_lit, n_gLt, n_gLe, n_gEq, n_gEq2, n_gLe2, n_gLt2, n_m1, n_add, n_mul, n_lt, n_le, n_eq, n_cl, n_in, n_rem, n_mlt, n_mle, n_ltm, n_lem, n_eqm, n_meq, n_bit, n_shl, n_b0, n_b1, n_sub, n_inT, nT, nF, lT, lF, eT, eF, not_false_eq_true, not_true_eq_false, sI_at, sI_c, sI_j, aI_at, aI_c, sL_at, sL_c, sL_j, true_and, and_true, not_true_eq_false, not_false_eq_true, forall_const, true_implies, false_implies, implies_true, if_true, if_false, ite_true, ite_false, Bool.not_eq_true, Bool.not_eq_false, Bool.true_eq_false, Bool.false_eq_true, false_and, and_false, or_true, true_or, false_or, or_false]
        refine cm_bothP ok hm (fun g2 I1 L1 o f1 W1 P => ?_) (fun g2 I1 f1 => ?_)
        · simp (disch := first | omega | assumption) only [n_lit, n_gLt, n_gLe, n_gEq, n_gEq2, n_gLe2, n_gLt2, n_m1, n_add, n_mul, n_lt, n_le, n_eq, n_cl, n_in, n_rem, n_mlt, n_mle, n_ltm, n_lem, n_eqm, n_meq, n_bit, n_shl, n_b0, n_b1, n_sub, n_inT, nT, nF, lT, lF, eT, eF, not_false_eq_true, not_true_eq_false, sI_at, sI_c, sI_j, aI_at, aI_c, sL_at, sL_c, sL_j, true_and, and_true, not_true_eq_false, not_false_eq_true, forall_const, true_implies, false_implies, implies_true, if_true, if_false, ite_true, ite_false, Bool.not_eq_true, Bool.not_eq_false, Bool.true_eq_false, Bool.false_eq_true, false_and, and_false, or_true, true_or, false_or, or_false]
          refine cm_cures (by omega) (by omega) W1 P.2.2.2.2.2 (fun I2 L2 f2 => ?_)
          have kk := k b I2 L2 (fun a ha => (f2 a (by omega)).trans (f1 a (by omega)))
          rw [g1, g2, g5, n_cl (by omega), n_cl (by omega)] at kk
          exact kk
        · have kk := k b I1 L (fun a ha => f1 a (by omega))
          rw [g2, Bool.and_false, Bool.and_false] at kk
          simp (disch := first | omega | assumption) only [n_lit, n_gLt, n_gLe, n_gEq, n_gEq2, n_gLe2, n_gLt2, n_m1, n_add, n_mul, n_lt, n_le, n_eq, n_cl, n_in, n_rem, n_mlt, n_mle, n_ltm, n_lem, n_eqm, n_meq, n_bit, n_shl, n_b0, n_b1, n_sub, n_inT, nT, nF, lT, lF, eT, eF, not_false_eq_true, not_true_eq_false, sI_at, sI_c, sI_j, aI_at, aI_c, sL_at, sL_c, sL_j, true_and, and_true, not_true_eq_false, not_false_eq_true, forall_const, true_implies, false_implies, implies_true, if_true, if_false, ite_true, ite_false, Bool.not_eq_true, Bool.not_eq_false, Bool.true_eq_false, Bool.false_eq_true, false_and, and_false, or_true, true_or, false_or, or_false] at kk
          simp (disch := first | omega | assumption) only [n_lit, n_gLt, n_gLe, n_gEq, n_gEq2, n_gLe2, n_gLt2, n_m1, n_add, n_mul, n_lt, n_le, n_eq, n_cl, n_in, n_rem, n_mlt, n_mle, n_ltm, n_lem, n_eqm, n_meq, n_bit, n_shl, n_b0, n_b1, n_sub, n_inT, nT, nF, lT, lF, eT, eF, not_false_eq_true, not_true_eq_false, sI_at, sI_c, sI_j, aI_at, aI_c, sL_at, sL_c, sL_j, true_and, and_true, not_true_eq_false, not_false_eq_true, forall_const, true_implies, false_implies, implies_true, if_true, if_false, ite_true, ite_false, Bool.not_eq_true, Bool.not_eq_false, Bool.true_eq_false, Bool.false_eq_true, false_and, and_false, or_true, true_or, false_or, or_false]
          exact kk
      · have kk := k b I L (fun _ _ => rfl)
        rw [g5, Bool.false_and, Bool.and_false] at kk
        simp (disch := first | omega | assumption) only [n_lit, n_gLt, n_gLe, n_gEq, n_gEq2, n_gLe2, n_gLt2, n_m1, n_add, n_mul, n_lt, n_le, n_eq, n_cl, n_in, n_rem, n_mlt, n_mle, n_ltm, n_lem, n_eqm, n_meq, n_bit, n_shl, n_b0, n_b1, n_sub, n_inT, nT, nF, lT, lF, eT, eF, not_false_eq_true, not_true_eq_false, sI_at, sI_c, sI_j, aI_at, aI_c, sL_at, sL_c, sL_j, true_and, and_true, not_true_eq_false, not_false_eq_true, forall_const, true_implies, false_implies, implies_true, if_true, if_false, ite_true, ite_false, Bool.not_eq_true, Bool.not_eq_false, Bool.true_eq_false, Bool.false_eq_true, false_and, and_false, or_true, true_or, false_or, or_false] at kk
        simp (disch := first | omega | assumption) only [n_lit, n_gLt, n_gLe, n_gEq, n_gEq2, n_gLe2, n_gLt2, n_m1, n_add, n_mul, n_lt, n_le, n_eq, n_cl, n_in, n_rem, n_mlt, n_mle, n_ltm, n_lem, n_eqm, n_meq, n_bit, n_shl, n_b0, n_b1, n_sub, n_inT, nT, nF, lT, lF, eT, eF, not_false_eq_true, not_true_eq_false, sI_at, sI_c, sI_j, aI_at, aI_c, sL_at, sL_c, sL_j, true_and, and_true, not_true_eq_false, not_false_eq_true, forall_const, true_implies, false_implies, implies_true, if_true, if_false, ite_true, ite_false, Bool.not_eq_true, Bool.not_eq_false, Bool.true_eq_false, Bool.false_eq_true, false_and, and_false, or_true, true_or, false_or, or_false]
        exact kk
    · have kk := k b I L (fun _ _ => rfl)
      rw [g1, Bool.false_and] at kk
      simp (disch := first | omega | assumption) only [n_lit, n_gLt, n_gLe, n_gEq, n_gEq2, n_gLe2, n_gLt2, n_m1, n_add, n_mul, n_lt, n_le, n_eq, n_cl, n_in, n_rem, n_mlt, n_mle, n_ltm, n_lem, n_eqm, n_meq, n_bit, n_shl, n_b0, n_b1, n_sub, n_inT, nT, nF, lT, lF, eT, eF, not_false_eq_true, not_true_eq_false, sI_at, sI_c, sI_j, aI_at, aI_c, sL_at, sL_c, sL_j, true_and, and_true, not_true_eq_false, not_false_eq_true, forall_const, true_implies, false_implies, implies_true, if_true, if_false, ite_true, ite_false, Bool.not_eq_true, Bool.not_eq_false, Bool.true_eq_false, Bool.false_eq_true, false_and, and_false, or_true, true_or, false_or, or_false] at kk
      simp (disch := first | omega | assumption) only [n_lit, n_gLt, n_gLe, n_gEq, n_gEq2, n_gLe2, n_gLt2, n_m1, n_add, n_mul, n_lt, n_le, n_eq, n_cl, n_in, n_rem, n_mlt, n_mle, n_ltm, n_lem, n_eqm, n_meq, n_bit, n_shl, n_b0, n_b1, n_sub, n_inT, nT, nF, lT, lF, eT, eF, not_false_eq_true, not_true_eq_false, sI_at, sI_c, sI_j, aI_at, aI_c, sL_at, sL_c, sL_j, true_and, and_true, not_true_eq_false, not_false_eq_true, forall_const, true_implies, false_implies, implies_true, if_true, if_false, ite_true, ite_false, Bool.not_eq_true, Bool.not_eq_false, Bool.true_eq_false, Bool.false_eq_true, false_and, and_false, or_true, true_or, false_or, or_false]
      exact kk
