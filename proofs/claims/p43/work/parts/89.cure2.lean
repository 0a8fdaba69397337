/-! WHAT-IFS: cure, the reference; late -/
/-- what the reference leaves as it is, all questions through -/
def mfr (I I' : MI) : Prop := ∀ a, a < 186 ∨ a = 187 ∨ a = 188 ∨ a = 189 ∨ 202 ≤ a → I' a = I a
theorem mfr.trans {I I' I'' : MI} (h : mfr I I') (k : mfr I' I'') : mfr I I'' := fun a ha => (k a ha).trans (h a ha)
theorem mfr_186 {I : MI} {j : Nat} {m : Int32} : mfr I (sI I 186 j m) := fun a ha => sI_c (by omega)
theorem n_2p {n : Nat} (hn : n ≤ 16) : (1 : Int32) <<< (nI n &&& 31) = nI (2 ^ n) := n_shl (by omega)
theorem oc_cure : ∀ a1 a2 a3 a4 : Int32, OpC m_S_cure [vi a1, vi a2, vi a3, vi a4] (fun B => if (inR a3 100 && (inR a4 4 && tkB B a1 a2)) = true then optI (szF (cuP B a1 a2 a3.toNatClampNeg) (B.wd a1 a2).v.n (a4.toNatClampNeg + 1) 0) else nM) := by
  intro a1 a2 a3 a4
  intro B I b L K ok hc k
  dsimp only at k
  · refine v_S_cure_0 (c_onDay (n := 99) (by decide) (fun g1 => ?_) (fun g1 => ?_))
    · obtain ⟨d, hd, rfl⟩ := (inR_iff (by decide)).mp g1
      cases g5 : inR a4 4 with
      | true =>
        obtain ⟨q, hq, rfl⟩ := (inR_iff (by decide)).mp g5
        simp (disch := first | omega | assumption) only [n_lit, n_gLt, n_gLe, n_gEq, n_gEq2, n_gLe2, n_gLt2, n_m1, n_add, n_mul, n_lt, n_le, n_eq, n_cl, n_in, n_rem, n_mlt, n_mle, n_ltm, n_lem, n_eqm, n_meq, n_bit, n_shl, n_b0, n_b1, n_sub, n_inT, nT, nF, lT, lF, eT, eF, not_false_eq_true, not_true_eq_false, sI_at, sI_c, sI_j, aI_at, aI_c, sL_at, sL_c, sL_j, true_and, and_true, not_true_eq_false, not_false_eq_true, forall_const, true_implies, false_implies, implies_true, if_true, if_false, ite_true, ite_false, Bool.not_eq_true, Bool.not_eq_false, Bool.true_eq_false, Bool.false_eq_true, false_and, and_false, or_true, true_or, false_or, or_false]
        refine c_takeW ok hc (fun g2 I1 L1 f1 W1 l0 => ?_) (fun g2 => ?_)
        · have hn := W1.vil.2.1.2
          simp (disch := first | omega | assumption) only [n_lit, n_gLt, n_gLe, n_gEq, n_gEq2, n_gLe2, n_gLt2, n_m1, n_add, n_mul, n_lt, n_le, n_eq, n_cl, n_in, n_rem, n_mlt, n_mle, n_ltm, n_lem, n_eqm, n_meq, n_bit, n_shl, n_b0, n_b1, n_sub, n_inT, nT, nF, lT, lF, eT, eF, not_false_eq_true, not_true_eq_false, sI_at, sI_c, sI_j, aI_at, aI_c, sL_at, sL_c, sL_j, true_and, and_true, not_true_eq_false, not_false_eq_true, forall_const, true_implies, false_implies, implies_true, if_true, if_false, ite_true, ite_false, Bool.not_eq_true, Bool.not_eq_false, Bool.true_eq_false, Bool.false_eq_true, false_and, and_false, or_true, true_or, false_or, or_false]
          refine c_leastCure ok g2 hn (by omega) (by omega) l0 (fun I2 L2 f2 => ?_)
          have kk := k b I2 L2 (fun a ha => (f2 a (by omega)).trans (f1 a (by omega)))
          rw [g1, g2, g5, n_cl (by omega), n_cl (by omega)] at kk
          exact kk
        · have kk := k b I L (fun _ _ => rfl)
          rw [g2, Bool.and_false, Bool.and_false] at kk
          simp (disch := first | omega | assumption) only [n_lit, n_gLt, n_gLe, n_gEq, n_gEq2, n_gLe2, n_gLt2, n_m1, n_add, n_mul, n_lt, n_le, n_eq, n_cl, n_in, n_rem, n_mlt, n_mle, n_ltm, n_lem, n_eqm, n_meq, n_bit, n_shl, n_b0, n_b1, n_sub, n_inT, nT, nF, lT, lF, eT, eF, not_false_eq_true, not_true_eq_false, sI_at, sI_c, sI_j, aI_at, aI_c, sL_at, sL_c, sL_j, true_and, and_true, not_true_eq_false, not_false_eq_true, forall_const, true_implies, false_implies, implies_true, if_true, if_false, ite_true, ite_false, Bool.not_eq_true, Bool.not_eq_false, Bool.true_eq_false, Bool.false_eq_true, false_and, and_false, or_true, true_or, false_or, or_false] at kk
          simp (disch := first | omega | assumption) only [n_lit, n_gLt, n_gLe, n_gEq, n_gEq2, n_gLe2, n_gLt2, n_m1, n_add, n_mul, n_lt, n_le, n_eq, n_cl, n_in, n_rem, n_mlt, n_mle, n_ltm, n_lem, n_eqm, n_meq, n_bit, n_shl, n_b0, n_b1, n_sub, n_inT, nT, nF, lT, lF, eT, eF, not_false_eq_true, not_true_eq_false, sI_at, sI_c, sI_j, aI_at, aI_c, sL_at, sL_c, sL_j, true_and, and_true, not_true_eq_false, not_false_eq_true, forall_const, true_implies, false_implies, implies_true, if_true, if_false, ite_true, ite_false, Bool.not_eq_true, Bool.not_eq_false, Bool.true_eq_false, Bool.false_eq_true, false_and, and_false, or_true, true_or, false_or, or_false]
          exact kk
      | false =>
        have kk := k b I L (fun _ _ => rfl)
        rw [g5, Bool.false_and, Bool.and_false] at kk
        simp (disch := first | omega | assumption) only [n_lit, n_gLt, n_gLe, n_gEq, n_gEq2, n_gLe2, n_gLt2, n_m1, n_add, n_mul, n_lt, n_le, n_eq, n_cl, n_in, n_rem, n_mlt, n_mle, n_ltm, n_lem, n_eqm, n_meq, n_bit, n_shl, n_b0, n_b1, n_sub, n_inT, nT, nF, lT, lF, eT, eF, not_false_eq_true, not_true_eq_false, sI_at, sI_c, sI_j, aI_at, aI_c, sL_at, sL_c, sL_j, true_and, and_true, not_true_eq_false, not_false_eq_true, forall_const, true_implies, false_implies, implies_true, if_true, if_false, ite_true, ite_false, Bool.not_eq_true, Bool.not_eq_false, Bool.true_eq_false, Bool.false_eq_true, false_and, and_false, or_true, true_or, false_or, or_false] at kk
        rcases inR_out (by decide) g5 with q | ⟨j, q1, q2, rfl⟩
        · simp (disch := first | omega | assumption) only [n_lit, n_gLt, n_gLe, n_gEq, n_gEq2, n_gLe2, n_gLt2, n_m1, n_add, n_mul, n_lt, n_le, n_eq, n_cl, n_in, n_rem, n_mlt, n_mle, n_ltm, n_lem, n_eqm, n_meq, n_bit, n_shl, n_b0, n_b1, n_sub, n_inT, nT, nF, lT, lF, eT, eF, not_false_eq_true, not_true_eq_false, sI_at, sI_c, sI_j, aI_at, aI_c, sL_at, sL_c, sL_j, true_and, and_true, not_true_eq_false, not_false_eq_true, forall_const, true_implies, false_implies, implies_true, if_true, if_false, ite_true, ite_false, Bool.not_eq_true, Bool.not_eq_false, Bool.true_eq_false, Bool.false_eq_true, false_and, and_false, or_true, true_or, false_or, or_false]
          exact kk
        · simp (disch := first | omega | assumption) only [n_lit, n_gLt, n_gLe, n_gEq, n_gEq2, n_gLe2, n_gLt2, n_m1, n_add, n_mul, n_lt, n_le, n_eq, n_cl, n_in, n_rem, n_mlt, n_mle, n_ltm, n_lem, n_eqm, n_meq, n_bit, n_shl, n_b0, n_b1, n_sub, n_inT, nT, nF, lT, lF, eT, eF, not_false_eq_true, not_true_eq_false, sI_at, sI_c, sI_j, aI_at, aI_c, sL_at, sL_c, sL_j, true_and, and_true, not_true_eq_false, not_false_eq_true, forall_const, true_implies, false_implies, implies_true, if_true, if_false, ite_true, ite_false, Bool.not_eq_true, Bool.not_eq_false, Bool.true_eq_false, Bool.false_eq_true, false_and, and_false, or_true, true_or, false_or, or_false]
          exact kk
    · have kk := k b I L (fun _ _ => rfl)
      rw [g1, Bool.false_and] at kk
      simp (disch := first | omega | assumption) only [n_lit, n_gLt, n_gLe, n_gEq, n_gEq2, n_gLe2, n_gLt2, n_m1, n_add, n_mul, n_lt, n_le, n_eq, n_cl, n_in, n_rem, n_mlt, n_mle, n_ltm, n_lem, n_eqm, n_meq, n_bit, n_shl, n_b0, n_b1, n_sub, n_inT, nT, nF, lT, lF, eT, eF, not_false_eq_true, not_true_eq_false, sI_at, sI_c, sI_j, aI_at, aI_c, sL_at, sL_c, sL_j, true_and, and_true, not_true_eq_false, not_false_eq_true, forall_const, true_implies, false_implies, implies_true, if_true, if_false, ite_true, ite_false, Bool.not_eq_true, Bool.not_eq_false, Bool.true_eq_false, Bool.false_eq_true, false_and, and_false, or_true, true_or, false_or, or_false] at kk
      simp (disch := first | omega | assumption) only [n_lit, n_gLt, n_gLe, n_gEq, n_gEq2, n_gLe2, n_gLt2, n_m1, n_add, n_mul, n_lt, n_le, n_eq, n_cl, n_in, n_rem, n_mlt, n_mle, n_ltm, n_lem, n_eqm, n_meq, n_bit, n_shl, n_b0, n_b1, n_sub, n_inT, nT, nF, lT, lF, eT, eF, not_false_eq_true, not_true_eq_false, sI_at, sI_c, sI_j, aI_at, aI_c, sL_at, sL_c, sL_j, true_and, and_true, not_true_eq_false, not_false_eq_true, forall_const, true_implies, false_implies, implies_true, if_true, if_false, ite_true, ite_false, Bool.not_eq_true, Bool.not_eq_false, Bool.true_eq_false, Bool.false_eq_true, false_and, and_false, or_true, true_or, false_or, or_false]
      exact kk

/-! late -/
def lstN (Q : Nat → Bool) : Nat → Option Nat
  | 0 => none
  | c + 1 => if Q c = true then some c else lstN Q c
def preI : Nat → Int32
  | 0 => nM
  | c + 1 => nI c
theorem preI_s (c : Nat) : nI c + nM = preI c := by
  cases c with
  | zero => rfl
  | succ c => exact n_addm c
def ltB (B : Bk) (a1 a2 : Int32) (k d : Nat) : Bool := (szF (cuP B a1 a2 d) (B.wd a1 a2).v.n (k + 1) 0).isSome
theorem op_v {o : Option Nat} (h : ∀ x, o = some x → x < 2147483648) : (optI o = nM) = (o.isSome = false) ∧ (optI o < nI 0) = (o.isSome = false) := by
  cases o with
  | none => exact ⟨propext ⟨fun _ => rfl, fun _ => rfl⟩, propext ⟨fun _ => rfl, fun _ => by decide⟩⟩
  | some x =>
    have := h x rfl
    refine ⟨?_, ?_⟩
    · show (nI x = nM) = _
      rw [n_eqm this]
      exact propext ⟨fun q => q.elim, fun q => Bool.noConfusion q⟩
    · show (nI x < nI 0) = _
      rw [n_lt this (by omega)]
      exact propext ⟨fun q => absurd q (Nat.not_lt_zero _), fun q => Bool.noConfusion q⟩
theorem szF_lt {P : Nat → Bool} {n : Nat} (hn : n ≤ 16) : ∀ c lo x, c + lo ≤ 4 → szF P n c lo = some x → x < 65536
  | 0, lo, x, _, h => by cases h
  | c + 1, lo, x, hc, h => by
    cases e : (LsA n lo).find? P with
    | none =>
      rw [szF_none e] at h
      exact szF_lt hn c (lo + 1) x (by omega) h
    | some y =>
      rw [szF_some e] at h
      cases h
      have h16 : 2 ^ n ≤ 2 ^ 16 := Nat.pow_le_pow_right (by decide) hn
      have := (setsP_of (sets_16 n (by omega) lo (by omega))).2.2.1 _ (List.mem_of_find?_eq_some e)
      omega
