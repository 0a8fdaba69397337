/-! WHAT-IFS: worlds -/
def wsE (B : Bk) (a1 a2 x h : Int32) (d k : Nat) : Nat := if h = nI 0 then (cleanB (drW B a1 a2 (x + nI k))).toNat else hdN (drW B a1 a2 (x + nI k)) d
def in20 (a : Int32) : Bool := inR a 21 && !decide (a = nI 0)
theorem in20_iff {a : Int32} : in20 a = true ↔ ∃ k, (1 ≤ k ∧ k ≤ 20) ∧ a = nI k := by
  unfold in20
  rw [Bool.and_eq_true, inR_iff (by decide)]
  constructor
  · rintro ⟨⟨k, h1, rfl⟩, h2⟩
    refine ⟨k, ⟨?_, by omega⟩, rfl⟩
    rcases Nat.eq_zero_or_pos k with e | e
    · subst e
      rw [decide_eq_true rfl] at h2
      cases h2
    · exact e
  · rintro ⟨k, h1, rfl⟩
    refine ⟨⟨k, by omega, rfl⟩, ?_⟩
    rw [decide_eq_false (by rw [n_eq (by omega) (by omega)]; omega)]
    rfl
theorem in20_out {a : Int32} (h : in20 a = false) : a < nI 0 ∨ a = nI 0 ∨ ∃ j, 20 < j ∧ j < 2147483648 ∧ a = nI j := by
  rcases n_sgn a with q | ⟨j, g, rfl⟩
  · exact Or.inl q
  · rcases Nat.eq_zero_or_pos j with e | e
    · exact Or.inr (Or.inl (by rw [e]))
    · refine Or.inr (Or.inr ⟨j, Nat.not_le.mp (fun q => ?_), g, rfl⟩)
      rw [in20_iff.mpr ⟨j, ⟨e, q⟩, rfl⟩] at h
      cases h
theorem cm_isIn20 {a : Int32} {b : Bool} {I : MI} {L : ML} {K : Int32 → Bool → MI → ML → Prop} (hy : in20 a = true → K (nI 1) b I L) (hf : in20 a = false → K (nI 0) b I L) : CI m_M_isIn [vi a, vi (nI 1), vi (nI 20)] b I L K := by
  refine v_M_isIn_0 ?_
  cases h : in20 a with
  | true =>
    have g := hy h
    obtain ⟨k, hk, rfl⟩ := in20_iff.mp h
    simp (disch := first | omega | assumption) only [n_lit, n_gLt, n_gLe, n_gEq, n_gEq2, n_gLe2, n_gLt2, n_m1, n_add, n_mul, n_lt, n_le, n_eq, n_cl, n_in, n_rem, n_mlt, n_mle, n_ltm, n_lem, n_eqm, n_meq, n_bit, n_shl, n_b0, n_b1, n_sub, n_inT, nT, nF, lT, lF, eT, eF, not_false_eq_true, not_true_eq_false, sI_at, sI_c, sI_j, aI_at, aI_c, sL_at, sL_c, sL_j, true_and, and_true, not_true_eq_false, not_false_eq_true, forall_const, true_implies, false_implies, implies_true, if_true, if_false, ite_true, ite_false, Bool.not_eq_true, Bool.not_eq_false, Bool.true_eq_false, Bool.false_eq_true, false_and, and_false, or_true, true_or, false_or, or_false]
    exact g
  | false =>
    have g := hf h
    rcases in20_out h with q | rfl | ⟨j, q1, q2, rfl⟩
    · have q2 := (n_nat q 1 (by omega)).1
      simp (disch := first | omega | assumption) only [n_lit, n_gLt, n_gLe, n_gEq, n_gEq2, n_gLe2, n_gLt2, n_m1, n_add, n_mul, n_lt, n_le, n_eq, n_cl, n_in, n_rem, n_mlt, n_mle, n_ltm, n_lem, n_eqm, n_meq, n_bit, n_shl, n_b0, n_b1, n_sub, n_inT, nT, nF, lT, lF, eT, eF, not_false_eq_true, not_true_eq_false, sI_at, sI_c, sI_j, aI_at, aI_c, sL_at, sL_c, sL_j, true_and, and_true, not_true_eq_false, not_false_eq_true, forall_const, true_implies, false_implies, implies_true, if_true, if_false, ite_true, ite_false, Bool.not_eq_true, Bool.not_eq_false, Bool.true_eq_false, Bool.false_eq_true, false_and, and_false, or_true, true_or, false_or, or_false, q2]
      exact g
    · simp (disch := first | omega | assumption) only [n_lit, n_gLt, n_gLe, n_gEq, n_gEq2, n_gLe2, n_gLt2, n_m1, n_add, n_mul, n_lt, n_le, n_eq, n_cl, n_in, n_rem, n_mlt, n_mle, n_ltm, n_lem, n_eqm, n_meq, n_bit, n_shl, n_b0, n_b1, n_sub, n_inT, nT, nF, lT, lF, eT, eF, not_false_eq_true, not_true_eq_false, sI_at, sI_c, sI_j, aI_at, aI_c, sL_at, sL_c, sL_j, true_and, and_true, not_true_eq_false, not_false_eq_true, forall_const, true_implies, false_implies, implies_true, if_true, if_false, ite_true, ite_false, Bool.not_eq_true, Bool.not_eq_false, Bool.true_eq_false, Bool.false_eq_true, false_and, and_false, or_true, true_or, false_or, or_false]
      exact g
    · simp (disch := first | omega | assumption) only [n_lit, n_gLt, n_gLe, n_gEq, n_gEq2, n_gLe2, n_gLt2, n_m1, n_add, n_mul, n_lt, n_le, n_eq, n_cl, n_in, n_rem, n_mlt, n_mle, n_ltm, n_lem, n_eqm, n_meq, n_bit, n_shl, n_b0, n_b1, n_sub, n_inT, nT, nF, lT, lF, eT, eF, not_false_eq_true, not_true_eq_false, sI_at, sI_c, sI_j, aI_at, aI_c, sL_at, sL_c, sL_j, true_and, and_true, not_true_eq_false, not_false_eq_true, forall_const, true_implies, false_implies, implies_true, if_true, if_false, ite_true, ite_false, Bool.not_eq_true, Bool.not_eq_false, Bool.true_eq_false, Bool.false_eq_true, false_and, and_false, or_true, true_or, false_or, or_false]
      exact g
theorem c_worlds {B : Bk} {a1 a2 x h : Int32} {d c : Nat} {I : MI} {L : ML} (ok : B.ok) (g2 : tkB B a1 a2 = true) (hv : (B.wd a1 a2).v.ok 41) (hd : d ≤ 200) (hc : c ≤ 20) (l0 : lif B a1 a2 wi0 I L) {b : Bool} {K : Int32 → Bool → MI → ML → Prop} (hK : ∀ I' L', (∀ a, a < 154 ∨ 186 ≤ a → I' a = I a) → K (nI (sumN (wsE B a1 a2 x h d) c)) b I' L') : CI m_Search_drawnWorlds [vr 15 181, vi x, vi (nI c), vi (nI d), vi h] b I L K := by
  have hn := hv.1.2
  have loop : ∀ n i, i + n = c → ∀ (f : Nat → Bool) (I1 : MI) (L1 : ML), (∀ a, a < 154 ∨ 186 ≤ a → I1 a = I a) → lif B a1 a2 (wi0.wdd f) I1 L1 → SW m_Search_drawnWorlds 6 [vr 15 181, vi x, vi (nI c), vi (nI d), vi h, vi (nI (sumN (wsE B a1 a2 x h d) i)), vi (nI i)] [] b I1 L1 (kI K) := by
    intro n
    induction n with
    | zero =>
      intro i hi f I1 L1 f1 l1
      obtain rfl : i = c := by omega
      exact v_Search_drawnWorlds_6 ⟨fun _ => hK I1 L1 f1, fun z => absurd (by rw [n_le (by omega) (by omega)]; exact Nat.le_refl _) z⟩
    | succ n ih =>
      intro i hi f I1 L1 f1 l1
      have nxt : ∀ (I3 : MI) (L3 : ML), (∀ a, a < 154 ∨ 186 ≤ a → I3 a = I1 a) → lif B a1 a2 (wi0.wdd (drB (B.wd a1 a2).v (x + nI i))) I3 L3 → ∀ z : Nat, z = wsE B a1 a2 x h d i → SW m_Search_drawnWorlds 6 [vr 15 181, vi x, vi (nI c), vi (nI d), vi h, vi (nI (sumN (wsE B a1 a2 x h d) i) + nI z), vi (nI (i + 1))] [] b I3 L3 (kI K) := fun I3 L3 f3 l3 z hz => by
        subst hz
        rw [n_add]
        exact ih (i + 1) (by omega) _ I3 L3 (fun a ha => (f3 a ha).trans (f1 a ha)) l3
      refine v_Search_drawnWorlds_6 ⟨fun z => absurd z (by rw [n_le (by omega) (by omega)]; omega), fun _ => ?_⟩
      rw [show nI i + (1 : Int32) = nI (i + 1) from n_add i 1]
      refine ⟨fun hh => ?_, fun hh => ?_⟩
      · refine c_isDrawnClean ok g2 hv l1 (fun I3 L3 f3 l3 => ?_)
        have nx := nxt I3 L3 f3 l3 (cleanB (drW B a1 a2 (x + nI i))).toNat (by
          unfold wsE
          rw [if_pos (show h = nI 0 from hh)])
        cases hcl : cleanB (drW B a1 a2 (x + nI i)) with
        | true =>
          rw [hcl] at nx
          exact ⟨fun z => absurd z (by decide), fun _ => nx⟩
        | false =>
          rw [hcl] at nx
          exact ⟨fun _ => nx, fun z => absurd rfl z⟩
      · refine c_drawnHolders ok g2 hv hd l1 (fun I3 L3 f3 l3 => ?_)
        have nx := nxt I3 L3 f3 l3 (hdN (drW B a1 a2 (x + nI i)) d) (by
          unfold wsE
          rw [if_neg (show ¬ h = nI 0 from hh)])
        exact c_bitCount (n := (drW B a1 a2 (x + nI i)).v.n) (f := hold (drW B a1 a2 (x + nI i)) d) hn nx
  exact v_Search_drawnWorlds_0 (loop c 0 (by omega) (fun _ => false) I L (fun a _ => rfl) l0)
theorem cm_worlds {B : Bk} {a1 a2 x h : Int32} {d c o : Nat} {I : MI} {L : ML} (hd : d ≤ 200) (hc : c ≤ 20) (W : WM (B.vl a1.toNatClampNeg) (B.tlOf a2) wi0 o (B.wd a1 a2) I L) {b : Bool} {K : Int32 → Bool → MI → ML → Prop} (hK : ∀ I' L', (∀ a, a < 186 ∨ a = 187 ∨ a = 188 ∨ a = 189 ∨ 202 ≤ a → I' a = I a) → K (nI (sumN (wsE B a1 a2 x h d) c)) b I' L') : SW m_M_worlds 40 [vr 22 186, un, un, vi x, vi (nI c), vi (nI d), vi h, vi (nI 0), vi (nI 0)] [] b I L (kI K) := by
  have hn := W.1.2.1.1.2
  have loop : ∀ n i, i + n = c → ∀ (f : Nat → Bool) (I1 : MI) (L1 : ML), (∀ a, a < 186 ∨ a = 187 ∨ a = 188 ∨ a = 189 ∨ 202 ≤ a → I1 a = I a) → WM (B.vl a1.toNatClampNeg) (B.tlOf a2) (wi0.wdd f) o (B.wx a1 a2 (wi0.wdd f)) I1 L1 → SW m_M_worlds 40 [vr 22 186, un, un, vi x, vi (nI c), vi (nI d), vi h, vi (nI (sumN (wsE B a1 a2 x h d) i)), vi (nI i)] [] b I1 L1 (kI K) := by
    intro n
    induction n with
    | zero =>
      intro i hi f I1 L1 f1 l1
      obtain rfl : i = c := by omega
      exact v_M_worlds_40 ⟨fun _ => hK I1 L1 f1, fun z => absurd (by rw [n_le (by omega) (by omega)]; exact Nat.le_refl _) z⟩
    | succ n ih =>
      intro i hi f I1 L1 f1 W1
      refine v_M_worlds_40 ⟨fun z => absurd z (by rw [n_le (by omega) (by omega)]; omega), fun _ => ?_⟩
      rw [show nI i + (1 : Int32) = nI (i + 1) from n_add i 1]
      refine cm_world W1 (fun I2 L2 f2 _ W2 => ?_)
      have W2 : WM (B.vl a1.toNatClampNeg) (B.tlOf a2) (wi0.wdd (drB (B.wd a1 a2).v (x + nI i))) o (drW B a1 a2 (x + nI i)) I2 L2 := W2
      have nxt : ∀ (I3 : MI) (L3 : ML), frM I2 I3 → (∀ a, a ≠ 201 → L3 a = L2 a) → ∀ z : Nat, z = wsE B a1 a2 x h d i → SW m_M_worlds 40 [vr 22 186, un, un, vi x, vi (nI c), vi (nI d), vi h, vi (nI (sumN (wsE B a1 a2 x h d) i) + nI z), vi (nI (i + 1))] [] b I3 L3 (kI K) := fun I3 L3 f3 l3 z hz => by
        subst hz
        rw [n_add]
        exact ih (i + 1) (by omega) _ I3 L3 (fun a ha => by rw [f3.1 a ha, f2 a (by omega), f1 a ha]) (W2.frM f3 (l3 186 (by decide)))
      refine ⟨fun hh => ?_, fun hh => ?_⟩
      · refine cm_isClean W2 (fun I3 L3 f3 l3 => ?_)
        have nx := nxt I3 L3 f3 l3 (cleanB (drW B a1 a2 (x + nI i))).toNat (by
          unfold wsE
          rw [if_pos (show h = nI 0 from hh)])
        cases hcl : cleanB (drW B a1 a2 (x + nI i)) with
        | true =>
          rw [hcl] at nx
          exact ⟨fun z => absurd z (by decide), fun _ => nx⟩
        | false =>
          rw [hcl] at nx
          exact ⟨fun _ => nx, fun z => absurd rfl z⟩
      · refine cm_drawnH hd W2 (fun I3 L3 f3 l3 => ?_)
        have nx := nxt I3 L3 f3 l3 (hdN (drW B a1 a2 (x + nI i)) d) (by
          unfold wsE
          rw [if_neg (show ¬ h = nI 0 from hh)])
        exact cm_bitsI (n := (drW B a1 a2 (x + nI i)).v.n) (f := hold (drW B a1 a2 (x + nI i)) d) hn nx
  exact loop c 0 (by omega) (fun _ => false) I L (fun a _ => rfl) W
theorem op_worlds : H_worlds := by
  intro a1 a2 a3 a4 a5 a6 h6
  refine Op2.q (fun B => if (inR a5 201 && (in20 a4 && tkB B a1 a2)) = true then nI (sumN (wsE B a1 a2 a3 a6 a5.toNatClampNeg) a4.toNatClampNeg) else nM) (fun B I b L K ok hc k => ?_) (fun B I b L K ok hm k => ?_)
  · refine v_S_worlds_0 (c_onDay (n := 200) (by decide) (fun g1 => ?_) (fun g1 => ?_))
    · obtain ⟨d, hd, rfl⟩ := (inR_iff (by decide)).mp g1
      cases g5 : in20 a4 with
      | true =>
        obtain ⟨c, hc2, rfl⟩ := in20_iff.mp g5
        simp (disch := first | omega | assumption) only [n_lit, n_gLt, n_gLe, n_gEq, n_gEq2, n_gLe2, n_gLt2, n_m1, n_add, n_mul, n_lt, n_le, n_eq, n_cl, n_in, n_rem, n_mlt, n_mle, n_ltm, n_lem, n_eqm, n_meq, n_bit, n_shl, n_b0, n_b1, n_sub, n_inT, nT, nF, lT, lF, eT, eF, not_false_eq_true, not_true_eq_false, sI_at, sI_c, sI_j, aI_at, aI_c, sL_at, sL_c, sL_j, true_and, and_true, not_true_eq_false, not_false_eq_true, forall_const, true_implies, false_implies, implies_true, if_true, if_false, ite_true, ite_false, Bool.not_eq_true, Bool.not_eq_false, Bool.true_eq_false, Bool.false_eq_true, false_and, and_false, or_true, true_or, false_or, or_false]
        refine c_takeW ok hc (fun g2 I1 L1 f1 W1 l0 => ?_) (fun g2 => ?_)
        · have hv := W1.vil.2
          simp (disch := first | omega | assumption) only [n_lit, n_gLt, n_gLe, n_gEq, n_gEq2, n_gLe2, n_gLt2, n_m1, n_add, n_mul, n_lt, n_le, n_eq, n_cl, n_in, n_rem, n_mlt, n_mle, n_ltm, n_lem, n_eqm, n_meq, n_bit, n_shl, n_b0, n_b1, n_sub, n_inT, nT, nF, lT, lF, eT, eF, not_false_eq_true, not_true_eq_false, sI_at, sI_c, sI_j, aI_at, aI_c, sL_at, sL_c, sL_j, true_and, and_true, not_true_eq_false, not_false_eq_true, forall_const, true_implies, false_implies, implies_true, if_true, if_false, ite_true, ite_false, Bool.not_eq_true, Bool.not_eq_false, Bool.true_eq_false, Bool.false_eq_true, false_and, and_false, or_true, true_or, false_or, or_false]
          refine c_worlds ok g2 hv (by omega) (by omega) l0 (fun I2 L2 f2 => ?_)
          have kk := k b I2 L2 (fun a ha => (f2 a (by omega)).trans (f1 a (by omega)))
          rw [g1, g2, g5, n_cl (by omega), n_cl (by omega)] at kk
          exact kk
        · have kk := k b I L (fun _ _ => rfl)
          rw [g2, Bool.and_false, Bool.and_false] at kk
          simp (disch := first | omega | assumption) only [n_lit, n_gLt, n_gLe, n_gEq, n_gEq2, n_gLe2, n_gLt2, n_m1, n_add, n_mul, n_lt, n_le, n_eq, n_cl, n_in, n_rem, n_mlt, n_mle, n_ltm, n_lem, n_eqm, n_meq, n_bit, n_shl, n_b0, n_b1, n_sub, n_inT, nT, nF, lT, lF, eT, eF, not_false_eq_true, not_true_eq_false, sI_at, sI_c, sI_j, aI_at, aI_c, sL_at, sL_c, sL_j, true_and, and_true, not_true_eq_false, not_false_eq_true, forall_const, true_implies, false_implies, implies_true, if_true, if_false, ite_true, ite_false, Bool.not_eq_true, Bool.not_eq_false, Bool.true_eq_false, Bool.false_eq_true, false_and, and_false, or_true, true_or, false_or, or_false] at kk
          simp (disch := first | omega | assumption) only [n_lit, n_gLt, n_gLe, n_gEq, n_gEq2, n_gLe2, n_gLt2, n_m1, n_add, n_mul, n_lt, n_le, n_eq, n_cl, n_in, n_rem, n_mlt, n_mle, n_ltm, n_lem, n_eqm, n_meq, n_bit, n_shl, n_b0, n_b1, n_sub, n_inT, nT, nF, lT, lF, eT, eF, not_false_eq_true, not_true_eq_false, sI_at, sI_c, sI_j, aI_at, aI_c, sL_at, sL_c, sL_j, true_and, and_true, not_true_eq_false, not_false_eq_true, forall_const, true_implies, false_implies, implies_true, if_true, if_false, ite_true, ite_false, Bool.not_eq_true, Bool.not_eq_false, Bool.true_eq_false, Bool.false_eq_true, false_and, and_false, or_true, true_or, false_or, or_false]
          exact kk
      | false =>
        have kk := k b I L (fun _ _ => rfl)
        rw [g5, Bool.false_and, Bool.and_false] at kk
        simp (disch := first | omega | assumption) only [n_lit, n_gLt, n_gLe, n_gEq, n_gEq2, n_gLe2, n_gLt2, n_m1, n_add, n_mul, n_lt, n_le, n_eq, n_cl, n_in, n_rem, n_mlt, n_mle, n_ltm, n_lem, n_eqm, n_meq, n_bit, n_shl, n_b0, n_b1, n_sub, n_inT, nT, nF, lT, lF, eT, eF, not_false_eq_true, not_true_eq_false, sI_at, sI_c, sI_j, aI_at, aI_c, sL_at, sL_c, sL_j, true_and, and_true, not_true_eq_false, not_false_eq_true, forall_const, true_implies, false_implies, implies_true, if_true, if_false, ite_true, ite_false, Bool.not_eq_true, Bool.not_eq_false, Bool.true_eq_false, Bool.false_eq_true, false_and, and_false, or_true, true_or, false_or, or_false] at kk
        rcases in20_out g5 with q | rfl | ⟨j, q1, q2, rfl⟩
        · have q2 := (n_nat q 1 (by omega)).1
          simp (disch := first | omega | assumption) only [n_lit, n_gLt, n_gLe, n_gEq, n_gEq2, n_gLe2, n_gLt2, n_m1, n_add, n_mul, n_lt, n_le, n_eq, n_cl, n_in, n_rem, n_mlt, n_mle, n_ltm, n_lem, n_eqm, n_meq, n_bit, n_shl, n_b0, n_b1, n_sub, n_inT, nT, nF, lT, lF, eT, eF, not_false_eq_true, not_true_eq_false, sI_at, sI_c, sI_j, aI_at, aI_c, sL_at, sL_c, sL_j, true_and, and_true, not_true_eq_false, not_false_eq_true, forall_const, true_implies, false_implies, implies_true, if_true, if_false, ite_true, ite_false, Bool.not_eq_true, Bool.not_eq_false, Bool.true_eq_false, Bool.false_eq_true, false_and, and_false, or_true, true_or, false_or, or_false, q2]
          exact kk
        · simp (disch := first | omega | assumption) only [n_lit, n_gLt, n_gLe, n_gEq, n_gEq2, n_gLe2, n_gLt2, n_m1, n_add, n_mul, n_lt, n_le, n_eq, n_cl, n_in, n_rem, n_mlt, n_mle, n_ltm, n_lem, n_eqm, n_meq, n_bit, n_shl, n_b0, n_b1, n_sub, n_inT, nT, nF, lT, lF, eT, eF, not_false_eq_true, not_true_eq_false, sI_at, sI_c, sI_j, aI_at, aI_c, sL_at, sL_c, sL_j, true_and, and_true, not_true_eq_false, not_false_eq_true, forall_const, true_implies, false_implies, implies_true, if_true, if_false, ite_true, ite_false, Bool.not_eq_true, Bool.not_eq_false, Bool.true_eq_false, Bool.false_eq_true, false_and, and_false, or_true, true_or, false_or, or_false]
          exact kk
        · simp (disch := first | omega | assumption) only [n_lit, n_gLt, n_gLe, n_gEq, n_gEq2, n_gLe2, n_gLt2, n_m1, n_add, n_mul, n_lt, n_le, n_eq, n_cl, n_in, n_rem, n_mlt, n_mle, n_ltm, n_lem, n_eqm, n_meq, n_bit, n_shl, n_b0, n_b1, n_sub, n_inT, nT, nF, lT, lF, eT, eF, not_false_eq_true, not_true_eq_false, sI_at, sI_c, sI_j, aI_at, aI_c, sL_at, sL_c, sL_j, true_and, and_true, not_true_eq_false, not_false_eq_true, forall_const, true_implies, false_implies, implies_true, if_true, if_false, ite_true, ite_false, Bool.not_eq_true, Bool.not_eq_false, Bool.true_eq_false, Bool.false_eq_true, false_and, and_false, or_true, true_or, false_or, or_false]
          exact kk
    · have kk := k b I L (fun _ _ => rfl)
      rw [g1, Bool.false_and] at kk
      simp (disch := first | omega | assumption) only [n_lit, n_gLt, n_gLe, n_gEq, n_gEq2, n_gLe2, n_gLt2, n_m1, n_add, n_mul, n_lt, n_le, n_eq, n_cl, n_in, n_rem, n_mlt, n_mle, n_ltm, n_lem, n_eqm, n_meq, n_bit, n_shl, n_b0, n_b1, n_sub, n_inT, nT, nF, lT, lF, eT, eF, not_false_eq_true, not_true_eq_false, sI_at, sI_c, sI_j, aI_at, aI_c, sL_at, sL_c, sL_j, true_and, and_true, not_true_eq_false, not_false_eq_true, forall_const, true_implies, false_implies, implies_true, if_true, if_false, ite_true, ite_false, Bool.not_eq_true, Bool.not_eq_false, Bool.true_eq_false, Bool.false_eq_true, false_and, and_false, or_true, true_or, false_or, or_false] at kk
      simp (disch := first | omega | assumption) only [n_lit, n_gLt, n_gLe, n_gEq, n_gEq2, n_gLe2, n_gLt2, n_m1, n_add, n_mul, n_lt, n_le, n_eq, n_cl, n_in, n_rem, n_mlt, n_mle, n_ltm, n_lem, n_eqm, n_meq, n_bit, n_shl, n_b0, n_b1, n_sub, n_inT, nT, nF, lT, lF, eT, eF, not_false_eq_true, not_true_eq_false, sI_at, sI_c, sI_j, aI_at, aI_c, sL_at, sL_c, sL_j, true_and, and_true, not_true_eq_false, not_false_eq_true, forall_const, true_implies, false_implies, implies_true, if_true, if_false, ite_true, ite_false, Bool.not_eq_true, Bool.not_eq_false, Bool.true_eq_false, Bool.false_eq_true, false_and, and_false, or_true, true_or, false_or, or_false]
      exact kk
  · refine v_M_worlds_0 (cm_isIn20 (fun g5 => ?_) (fun g5 => ?_))
    · obtain ⟨c, hc2, rfl⟩ := in20_iff.mp g5
      simp (disch := first | omega | assumption) only [n_lit, n_gLt, n_gLe, n_gEq, n_gEq2, n_gLe2, n_gLt2, n_m1, n_add, n_mul, n_lt, n_le, n_eq, n_cl, n_in, n_rem, n_mlt, n_mle, n_ltm, n_lem, n_eqm, n_meq, n_bit, n_shl, n_b0, n_b1, n_sub, n_inT, nT, nF, lT, lF, eT, eF, not_false_eq_true, not_true_eq_false, sI_at, sI_c, sI_j, aI_at, aI_c, sL_at, sL_c, sL_j, true_and, and_true, not_true_eq_false, not_false_eq_true, forall_const, true_implies, false_implies, implies_true, if_true, if_false, ite_true, ite_false, Bool.not_eq_true, Bool.not_eq_false, Bool.true_eq_false, Bool.false_eq_true, false_and, and_false, or_true, true_or, false_or, or_false]
      refine cm_isIn0 (n := 200) (by decide) (fun g1 => ?_) (fun g1 => ?_)
      · obtain ⟨d, hd, rfl⟩ := (inR_iff (by decide)).mp g1
        simp (disch := first | omega | assumption) only [n_lit, n_gLt, n_gLe, n_gEq, n_gEq2, n_gLe2, n_gLt2, n_m1, n_add, n_mul, n_lt, n_le, n_eq, n_cl, n_in, n_rem, n_mlt, n_mle, n_ltm, n_lem, n_eqm, n_meq, n_bit, n_shl, n_b0, n_b1, n_sub, n_inT, nT, nF, lT, lF, eT, eF, not_false_eq_true, not_true_eq_false, sI_at, sI_c, sI_j, aI_at, aI_c, sL_at, sL_c, sL_j, true_and, and_true, not_true_eq_false, not_false_eq_true, forall_const, true_implies, false_implies, implies_true, if_true, if_false, ite_true, ite_false, Bool.not_eq_true, Bool.not_eq_false, Bool.true_eq_false, Bool.false_eq_true, false_and, and_false, or_true, true_or, false_or, or_false]
        refine cm_bothW ok hm (fun g2 I1 L1 o f1 W1 => ?_) (fun g2 I1 f1 => ?_)
        · simp (disch := first | omega | assumption) only [n_lit, n_gLt, n_gLe, n_gEq, n_gEq2, n_gLe2, n_gLt2, n_m1, n_add, n_mul, n_lt, n_le, n_eq, n_cl, n_in, n_rem, n_mlt, n_mle, n_ltm, n_lem, n_eqm, n_meq, n_bit, n_shl, n_b0, n_b1, n_sub, n_inT, nT, nF, lT, lF, eT, eF, not_false_eq_true, not_true_eq_false, sI_at, sI_c, sI_j, aI_at, aI_c, sL_at, sL_c, sL_j, true_and, and_true, not_true_eq_false, not_false_eq_true, forall_const, true_implies, false_implies, implies_true, if_true, if_false, ite_true, ite_false, Bool.not_eq_true, Bool.not_eq_false, Bool.true_eq_false, Bool.false_eq_true, false_and, and_false, or_true, true_or, false_or, or_false]
          refine cm_worlds (by omega) (by omega) W1 (fun I2 L2 f2 => ?_)
          have kk := k b I2 L2 (fun a ha => (f2 a (by omega)).trans (f1 a (by omega)))
          rw [g1, g2, g5, n_cl (by omega), n_cl (by omega)] at kk
          exact kk
        · have kk := k b I1 L (fun a ha => f1 a (by omega))
          rw [g2, Bool.and_false, Bool.and_false] at kk
          simp (disch := first | omega | assumption) only [n_lit, n_gLt, n_gLe, n_gEq, n_gEq2, n_gLe2, n_gLt2, n_m1, n_add, n_mul, n_lt, n_le, n_eq, n_cl, n_in, n_rem, n_mlt, n_mle, n_ltm, n_lem, n_eqm, n_meq, n_bit, n_shl, n_b0, n_b1, n_sub, n_inT, nT, nF, lT, lF, eT, eF, not_false_eq_true, not_true_eq_false, sI_at, sI_c, sI_j, aI_at, aI_c, sL_at, sL_c, sL_j, true_and, and_true, not_true_eq_false, not_false_eq_true, forall_const, true_implies, false_implies, implies_true, if_true, if_false, ite_true, ite_false, Bool.not_eq_true, Bool.not_eq_false, Bool.true_eq_false, Bool.false_eq_true, false_and, and_false, or_true, true_or, false_or, or_false] at kk
          simp (disch := first | omega | assumption) only [n_lit, n_gLt, n_gLe, n_gEq, n_gEq2, n_gLe2, n_gLt2, n_m1, n_add, n_mul, n_lt, n_le, n_eq, n_cl, n_in, n_rem, n_mlt, n_mle, n_ltm, n_lem, n_eqm, n_meq, n_bit, n_shl, n_b0, n_b1, n_sub, n_inT, nT, nF, lT, lF, eT, eF, not_false_eq_true, not_true_eq_false, sI_at, sI_c, sI_j, aI_at, aI_c, sL_at, sL_c, sL_j, true_and, and_true, not_true_eq_false, not_false_eq_true, forall_const, true_implies, false_implies, implies_true, if_true, if_false, ite_true, ite_false, Bool.not_eq_true, Bool.not_eq_false, Bool.true_eq_false, Bool.false_eq_true, false_and, and_false, or_true, true_or, false_or, or_false]
          exact kk
      · have kk := k b I L (fun _ _ => rfl)
        rw [g1, Bool.false_and] at kk
        simp (disch := first | omega | assumption) only [n_lit, n_gLt, n_gLe, n_gEq, n_gEq2, n_gLe2, n_gLt2, n_m1, n_add, n_mul, n_lt, n_le, n_eq, n_cl, n_in, n_rem, n_mlt, n_mle, n_ltm, n_lem, n_eqm, n_meq, n_bit, n_shl, n_b0, n_b1, n_sub, n_inT, nT, nF, lT, lF, eT, eF, not_false_eq_true, not_true_eq_false, sI_at, sI_c, sI_j, aI_at, aI_c, sL_at, sL_c, sL_j, true_and, and_true, not_true_eq_false, not_false_eq_true, forall_const, true_implies, false_implies, implies_true, if_true, if_false, ite_true, ite_false, Bool.not_eq_true, Bool.not_eq_false, Bool.true_eq_false, Bool.false_eq_true, false_and, and_false, or_true, true_or, false_or, or_false] at kk
        simp (disch := first | omega | assumption) only [n_lit, n_gLt, n_gLe, n_gEq, n_gEq2, n_gLe2, n_gLt2, n_m1, n_add, n_mul, n_lt, n_le, n_eq, n_cl, n_in, n_rem, n_mlt, n_mle, n_ltm, n_lem, n_eqm, n_meq, n_bit, n_shl, n_b0, n_b1, n_sub, n_inT, nT, nF, lT, lF, eT, eF, not_false_eq_true, not_true_eq_false, sI_at, sI_c, sI_j, aI_at, aI_c, sL_at, sL_c, sL_j, true_and, and_true, not_true_eq_false, not_false_eq_true, forall_const, true_implies, false_implies, implies_true, if_true, if_false, ite_true, ite_false, Bool.not_eq_true, Bool.not_eq_false, Bool.true_eq_false, Bool.false_eq_true, false_and, and_false, or_true, true_or, false_or, or_false]
        exact kk
    · have kk := k b I L (fun _ _ => rfl)
      rw [g5, Bool.false_and, Bool.and_false] at kk
      simp (disch := first | omega | assumption) only [n_lit, n_gLt, n_gLe, n_gEq, n_gEq2, n_gLe2, n_gLt2, n_m1, n_add, n_mul, n_lt, n_le, n_eq, n_cl, n_in, n_rem, n_mlt, n_mle, n_ltm, n_lem, n_eqm, n_meq, n_bit, n_shl, n_b0, n_b1, n_sub, n_inT, nT, nF, lT, lF, eT, eF, not_false_eq_true, not_true_eq_false, sI_at, sI_c, sI_j, aI_at, aI_c, sL_at, sL_c, sL_j, true_and, and_true, not_true_eq_false, not_false_eq_true, forall_const, true_implies, false_implies, implies_true, if_true, if_false, ite_true, ite_false, Bool.not_eq_true, Bool.not_eq_false, Bool.true_eq_false, Bool.false_eq_true, false_and, and_false, or_true, true_or, false_or, or_false] at kk
      simp (disch := first | omega | assumption) only [n_lit, n_gLt, n_gLe, n_gEq, n_gEq2, n_gLe2, n_gLt2, n_m1, n_add, n_mul, n_lt, n_le, n_eq, n_cl, n_in, n_rem, n_mlt, n_mle, n_ltm, n_lem, n_eqm, n_meq, n_bit, n_shl, n_b0, n_b1, n_sub, n_inT, nT, nF, lT, lF, eT, eF, not_false_eq_true, not_true_eq_false, sI_at, sI_c, sI_j, aI_at, aI_c, sL_at, sL_c, sL_j, true_and, and_true, not_true_eq_false, not_false_eq_true, forall_const, true_implies, false_implies, implies_true, if_true, if_false, ite_true, ite_false, Bool.not_eq_true, Bool.not_eq_false, Bool.true_eq_false, Bool.false_eq_true, false_and, and_false, or_true, true_or, false_or, or_false]
      exact kk
