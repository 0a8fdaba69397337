/-! WHAT-IFS: deaf, against the reference -/
/-- the reference's cells as they were told, but for whom a doubt or a kind is another one -/
def sameP (I1 I' : MI) (L1 L' : ML) : Prop := (∀ j, j < 27 → j ≠ 17 → j ≠ 18 → j ≠ 19 → I' 186 j = I1 186 j) ∧ I' 187 = I1 187 ∧ L' 186 = L1 186
theorem sameP.fr {I1 I' I'' : MI} {L1 L' L'' : ML} (h : sameP I1 I' L1 L') (f : frM I' I'') (l : ∀ a, a ≠ 201 → L'' a = L' a) : sameP I1 I'' L1 L'' := ⟨fun j h1 h2 h3 h4 => (f.2 j (by omega) (by omega)).trans (h.1 j h1 h2 h3 h4), (f.1 187 (by omega)).trans h.2.1, (l 186 (by decide)).trans h.2.2⟩
theorem WM_db {v : Vil} {t : Tel} {o p d : Nat} {I1 I' : MI} {L1 L' : ML} (W : WM v t wi0 o (mkW v v.m t wi0) I1 L1) (P : plP I1) (h1 : 1 ≤ d) (h2 : d ≤ 99) (S : sameP I1 I' L1 L') (e17 : I' 186 17 = nI p) (e18 : I' 186 18 = nM) (e19 : I' 186 19 = nI d) (hp : p < 16) : WM v t wi0 o (dfW v t p d) I' L' := by
  obtain ⟨⟨a1, a2, a3, a4, a5⟩, ⟨b1, b2, b3⟩, c1, d1, e1⟩ := W
  obtain ⟨s1, s2, s3⟩ := S
  refine ⟨⟨rfl, setDb_ok a2 h1 h2, a3, a4, a5⟩, ⟨b1, (s1 11 (by omega) (by omega) (by omega) (by omega)).trans b2, vilM_fr s2 b3⟩, ?_, ?_, ?_⟩
  · unfold rtP telM at c1 ⊢
    rw [s2, s1 12 (by omega) (by omega) (by omega) (by omega)]
    exact c1
  · unfold rxP at d1 ⊢
    rw [s1 26 (by omega) (by omega) (by omega) (by omega), s1 25 (by omega) (by omega) (by omega) (by omega), s1 13 (by omega) (by omega) (by omega) (by omega), s1 14 (by omega) (by omega) (by omega) (by omega), s1 15 (by omega) (by omega) (by omega) (by omega), s1 16 (by omega) (by omega) (by omega) (by omega), s1 22 (by omega) (by omega) (by omega) (by omega), s3]
    exact d1
  · refine ⟨⟨rfl, rfl, rfl, rfl⟩, fun k hk => ⟨rfl, rfl, rfl, rfl⟩, fun q hq => Or.inr ⟨Or.inr ?_, rfl⟩, fun q hq => ?_, Or.inl ⟨?_, rfl⟩⟩
    · rw [e18]
      decide
    · rw [e17, e19]
      show (nI p = nI q ∧ nI d = nI (if q = p then d else v.db q)) ∨ ((¬ nI q = nI p ∨ nI d < nI 0) ∧ (if q = p then d else v.db q) = v.db q)
      by_cases c : q = p
      · subst c
        rw [if_pos rfl]
        exact Or.inl ⟨rfl, rfl⟩
      · rw [if_neg c]
        refine Or.inr ⟨Or.inl ?_, rfl⟩
        rw [n_eq (by omega) (by omega)]
        exact c
    · rw [s1 23 (by omega) (by omega) (by omega) (by omega)]
      exact P.2.2.2.1
theorem cm_deaf {v : Vil} {t : Tel} {o p : Nat} {I1 : MI} {L1 : ML} (W : WM v t wi0 o (mkW v v.m t wi0) I1 L1) (P : plP I1) (hp : p < v.n) {b : Bool} {K : Int32 → Bool → MI → ML → Prop} (hK : ∀ I' L', (∀ a, a < 186 ∨ a = 187 ∨ a = 188 ∨ a = 189 ∨ 202 ≤ a → I' a = I1 a) → K (optI (fstN (dfB v t p) 99 1)) b I' L') : SW m_M_deaf 29 [vr 22 186, un, un, vi (nI p)] [] b (sI (sI I1 186 17 (nI p)) 186 19 (nI 1)) L1 (kI K) := by
  have hn := W.1.2.1.1.2
  have hn : v.n ≤ 16 := hn
  have loop : ∀ n i, i + n = 100 → 1 ≤ i → ∀ (I' : MI) (L' : ML), (∀ a, a < 186 ∨ a = 187 ∨ a = 188 ∨ a = 189 ∨ 202 ≤ a → I' a = I1 a) → sameP I1 I' L1 L' → I' 186 17 = nI p → I' 186 18 = nM → I' 186 19 = nI i → (∀ I' L', (∀ a, a < 186 ∨ a = 187 ∨ a = 188 ∨ a = 189 ∨ 202 ≤ a → I' a = I1 a) → K (optI (fstN (dfB v t p) n i)) b I' L') → SW m_M_deaf 29 [vr 22 186, un, un, vi (nI p)] [] b I' L' (kI K) := by
    intro n
    induction n with
    | zero =>
      intro i hi h1 I' L' fr S e17 e18 e19 kk
      obtain rfl : i = 100 := by omega
      refine v_M_deaf_29 ?_
      simp (disch := first | omega | assumption) only [n_lit, n_gLt, n_gLe, n_gEq, n_gEq2, n_gLe2, n_gLt2, n_m1, n_add, n_mul, n_lt, n_le, n_eq, n_cl, n_in, n_rem, n_mlt, n_mle, n_ltm, n_lem, n_eqm, n_meq, n_bit, n_shl, n_b0, n_b1, n_sub, n_inT, nT, nF, lT, lF, eT, eF, not_false_eq_true, not_true_eq_false, sI_at, sI_c, sI_j, aI_at, aI_c, sL_at, sL_c, sL_j, true_and, and_true, not_true_eq_false, not_false_eq_true, forall_const, true_implies, false_implies, implies_true, if_true, if_false, ite_true, ite_false, Bool.not_eq_true, Bool.not_eq_false, Bool.true_eq_false, Bool.false_eq_true, false_and, and_false, or_true, true_or, false_or, or_false, e19]
      exact kk I' L' fr
    | succ n ih =>
      intro i hi h1 I' L' fr S e17 e18 e19 kk
      have W2 := WM_db W P h1 (by omega) S e17 e18 e19 (by omega)
      refine v_M_deaf_29 ?_
      simp (disch := first | omega | assumption) only [n_lit, n_gLt, n_gLe, n_gEq, n_gEq2, n_gLe2, n_gLt2, n_m1, n_add, n_mul, n_lt, n_le, n_eq, n_cl, n_in, n_rem, n_mlt, n_mle, n_ltm, n_lem, n_eqm, n_meq, n_bit, n_shl, n_b0, n_b1, n_sub, n_inT, nT, nF, lT, lF, eT, eF, not_false_eq_true, not_true_eq_false, sI_at, sI_c, sI_j, aI_at, aI_c, sL_at, sL_c, sL_j, true_and, and_true, not_true_eq_false, not_false_eq_true, forall_const, true_implies, false_implies, implies_true, if_true, if_false, ite_true, ite_false, Bool.not_eq_true, Bool.not_eq_false, Bool.true_eq_false, Bool.false_eq_true, false_and, and_false, or_true, true_or, false_or, or_false, e19]
      refine cm_everOf W2 (fun I3 L3 f3 m3 _ => ?_)
      have fr3 : ∀ a, a < 186 ∨ a = 187 ∨ a = 188 ∨ a = 189 ∨ 202 ≤ a → I3 a = I1 a := fun a ha => (f3.1 a ha).trans (fr a ha)
      have S3 := S.fr f3 m3
      have g17 := (f3.2 17 (by omega) (by omega)).trans e17
      have g18 := (f3.2 18 (by omega) (by omega)).trans e18
      have g19 := (f3.2 19 (by omega) (by omega)).trans e19
      have eb := df_bit (t := t) (d := i) hn hp
      unfold fstN at kk
      cases c : dfB v t p i with
      | true =>
        rw [c] at eb
        have kk := kk I3 L3 fr3
        rw [if_pos c] at kk
        simp (disch := first | omega | assumption) only [n_lit, n_gLt, n_gLe, n_gEq, n_gEq2, n_gLe2, n_gLt2, n_m1, n_add, n_mul, n_lt, n_le, n_eq, n_cl, n_in, n_rem, n_mlt, n_mle, n_ltm, n_lem, n_eqm, n_meq, n_bit, n_shl, n_b0, n_b1, n_sub, n_inT, nT, nF, lT, lF, eT, eF, not_false_eq_true, not_true_eq_false, sI_at, sI_c, sI_j, aI_at, aI_c, sL_at, sL_c, sL_j, true_and, and_true, not_true_eq_false, not_false_eq_true, forall_const, true_implies, false_implies, implies_true, if_true, if_false, ite_true, ite_false, Bool.not_eq_true, Bool.not_eq_false, Bool.true_eq_false, Bool.false_eq_true, false_and, and_false, or_true, true_or, false_or, or_false, eb, Bool.not_true, Bool.toNat_false, g19]
        exact kk
      | false =>
        rw [c] at eb
        have nxt := ih (i + 1) (by omega) (by omega) (sI I3 186 19 (nI (i + 1))) L3 (fun a ha => by
          rw [sI_c (by omega), fr3 a ha]) ⟨fun j q1 q2 q3 q4 => by rw [sI_j q4, S3.1 j q1 q2 q3 q4], by rw [sI_c (by omega), S3.2.1], S3.2.2⟩ (by rw [sI_j (by omega)]; exact g17) (by rw [sI_j (by omega)]; exact g18) (sI_at _ _ _ _) (fun I' L' f => by
          have kk := kk I' L' f
          rw [if_neg (by rw [c]; exact Bool.false_ne_true)] at kk
          exact kk)
        simp (disch := first | omega | assumption) only [n_lit, n_gLt, n_gLe, n_gEq, n_gEq2, n_gLe2, n_gLt2, n_m1, n_add, n_mul, n_lt, n_le, n_eq, n_cl, n_in, n_rem, n_mlt, n_mle, n_ltm, n_lem, n_eqm, n_meq, n_bit, n_shl, n_b0, n_b1, n_sub, n_inT, nT, nF, lT, lF, eT, eF, not_false_eq_true, not_true_eq_false, sI_at, sI_c, sI_j, aI_at, aI_c, sL_at, sL_c, sL_j, true_and, and_true, not_true_eq_false, not_false_eq_true, forall_const, true_implies, false_implies, implies_true, if_true, if_false, ite_true, ite_false, Bool.not_eq_true, Bool.not_eq_false, Bool.true_eq_false, Bool.false_eq_true, false_and, and_false, or_true, true_or, false_or, or_false, eb, Bool.not_false, Bool.toNat_true, g19]
        exact nxt
  refine loop 99 1 (by omega) (by omega) _ L1 (fun a ha => by rw [sI_c (by omega), sI_c (by omega)]) ⟨fun j q1 q2 q3 q4 => by rw [sI_j q4, sI_j q2], by rw [sI_c (by omega), sI_c (by omega)], rfl⟩ (by rw [sI_j (by omega), sI_at]) (by rw [sI_j (by omega), sI_j (by omega)]; exact P.2.1) (sI_at _ _ _ _) hK
theorem op_deaf : H_deaf := by
  intro a1 a2 a3
  refine Op2.q (fun B => if (hpB B a1 a3 && tkB B a1 a2) = true then optI (fstN (dfB (B.vl a1.toNatClampNeg) (B.tlOf a2) a3.toNatClampNeg) 99 1) else nM) (fun B I b L K ok hc k => ?_) (fun B I b L K ok hm k => ?_)
  · refine v_S_deaf_0 (c_hasPerson ok hc (fun g3 => ?_) (fun g3 => ?_))
    · simp (disch := first | omega | assumption) only [n_lit, n_gLt, n_gLe, n_gEq, n_gEq2, n_gLe2, n_gLt2, n_m1, n_add, n_mul, n_lt, n_le, n_eq, n_cl, n_in, n_rem, n_mlt, n_mle, n_ltm, n_lem, n_eqm, n_meq, n_bit, n_shl, n_b0, n_b1, n_sub, n_inT, nT, nF, lT, lF, eT, eF, not_false_eq_true, not_true_eq_false, sI_at, sI_c, sI_j, aI_at, aI_c, sL_at, sL_c, sL_j, true_and, and_true, not_true_eq_false, not_false_eq_true, forall_const, true_implies, false_implies, implies_true, if_true, if_false, ite_true, ite_false, Bool.not_eq_true, Bool.not_eq_false, Bool.true_eq_false, Bool.false_eq_true, false_and, and_false, or_true, true_or, false_or, or_false]
      refine c_takeW ok hc (fun g2 I1 L1 f1 W1 l0 => ?_) (fun g2 => ?_)
      · have hn := W1.vil.2.1.2
        have g4 := hp_tk (a3 := a3) ok g2
        rw [g3] at g4
        obtain ⟨p, hp, rfl⟩ := (inR_iff (by omega)).mp g4.symm
        have ht : (B.tlOf a2).ok := tlOf_ok ok ((tkB_iff ok).mp g2).2
        simp (disch := first | omega | assumption) only [n_lit, n_gLt, n_gLe, n_gEq, n_gEq2, n_gLe2, n_gLt2, n_m1, n_add, n_mul, n_lt, n_le, n_eq, n_cl, n_in, n_rem, n_mlt, n_mle, n_ltm, n_lem, n_eqm, n_meq, n_bit, n_shl, n_b0, n_b1, n_sub, n_inT, nT, nF, lT, lF, eT, eF, not_false_eq_true, not_true_eq_false, sI_at, sI_c, sI_j, aI_at, aI_c, sL_at, sL_c, sL_j, true_and, and_true, not_true_eq_false, not_false_eq_true, forall_const, true_implies, false_implies, implies_true, if_true, if_false, ite_true, ite_false, Bool.not_eq_true, Bool.not_eq_false, Bool.true_eq_false, Bool.false_eq_true, false_and, and_false, or_true, true_or, false_or, or_false]
        refine c_deaf W1.vil.2 ht hp l0 (fun I2 L2 f2 => ?_)
        have kk := k b I2 L2 (fun a ha => (f2 a (by omega)).trans (f1 a (by omega)))
        rw [g2, g3, n_cl (by omega), Bool.and_self, if_pos rfl] at kk
        exact kk
      · have kk := k b I L (fun _ _ => rfl)
        rw [g2, Bool.and_false] at kk
        simp (disch := first | omega | assumption) only [n_lit, n_gLt, n_gLe, n_gEq, n_gEq2, n_gLe2, n_gLt2, n_m1, n_add, n_mul, n_lt, n_le, n_eq, n_cl, n_in, n_rem, n_mlt, n_mle, n_ltm, n_lem, n_eqm, n_meq, n_bit, n_shl, n_b0, n_b1, n_sub, n_inT, nT, nF, lT, lF, eT, eF, not_false_eq_true, not_true_eq_false, sI_at, sI_c, sI_j, aI_at, aI_c, sL_at, sL_c, sL_j, true_and, and_true, not_true_eq_false, not_false_eq_true, forall_const, true_implies, false_implies, implies_true, if_true, if_false, ite_true, ite_false, Bool.not_eq_true, Bool.not_eq_false, Bool.true_eq_false, Bool.false_eq_true, false_and, and_false, or_true, true_or, false_or, or_false] at kk
        simp (disch := first | omega | assumption) only [n_lit, n_gLt, n_gLe, n_gEq, n_gEq2, n_gLe2, n_gLt2, n_m1, n_add, n_mul, n_lt, n_le, n_eq, n_cl, n_in, n_rem, n_mlt, n_mle, n_ltm, n_lem, n_eqm, n_meq, n_bit, n_shl, n_b0, n_b1, n_sub, n_inT, nT, nF, lT, lF, eT, eF, not_false_eq_true, not_true_eq_false, sI_at, sI_c, sI_j, aI_at, aI_c, sL_at, sL_c, sL_j, true_and, and_true, not_true_eq_false, not_false_eq_true, forall_const, true_implies, false_implies, implies_true, if_true, if_false, ite_true, ite_false, Bool.not_eq_true, Bool.not_eq_false, Bool.true_eq_false, Bool.false_eq_true, false_and, and_false, or_true, true_or, false_or, or_false]
        exact kk
    · have kk := k b I L (fun _ _ => rfl)
      rw [g3, Bool.false_and] at kk
      simp (disch := first | omega | assumption) only [n_lit, n_gLt, n_gLe, n_gEq, n_gEq2, n_gLe2, n_gLt2, n_m1, n_add, n_mul, n_lt, n_le, n_eq, n_cl, n_in, n_rem, n_mlt, n_mle, n_ltm, n_lem, n_eqm, n_meq, n_bit, n_shl, n_b0, n_b1, n_sub, n_inT, nT, nF, lT, lF, eT, eF, not_false_eq_true, not_true_eq_false, sI_at, sI_c, sI_j, aI_at, aI_c, sL_at, sL_c, sL_j, true_and, and_true, not_true_eq_false, not_false_eq_true, forall_const, true_implies, false_implies, implies_true, if_true, if_false, ite_true, ite_false, Bool.not_eq_true, Bool.not_eq_false, Bool.true_eq_false, Bool.false_eq_true, false_and, and_false, or_true, true_or, false_or, or_false] at kk
      simp (disch := first | omega | assumption) only [n_lit, n_gLt, n_gLe, n_gEq, n_gEq2, n_gLe2, n_gLt2, n_m1, n_add, n_mul, n_lt, n_le, n_eq, n_cl, n_in, n_rem, n_mlt, n_mle, n_ltm, n_lem, n_eqm, n_meq, n_bit, n_shl, n_b0, n_b1, n_sub, n_inT, nT, nF, lT, lF, eT, eF, not_false_eq_true, not_true_eq_false, sI_at, sI_c, sI_j, aI_at, aI_c, sL_at, sL_c, sL_j, true_and, and_true, not_true_eq_false, not_false_eq_true, forall_const, true_implies, false_implies, implies_true, if_true, if_false, ite_true, ite_false, Bool.not_eq_true, Bool.not_eq_false, Bool.true_eq_false, Bool.false_eq_true, false_and, and_false, or_true, true_or, false_or, or_false]
      exact kk
  · refine v_M_deaf_0 (cm_bothP ok hm (fun g2 I1 L1 o f1 W1 P => ?_) (fun g2 I1 f1 => ?_))
    · have hn := W1.1.2.1.1.2
      simp (disch := first | omega | assumption) only [n_lit, n_gLt, n_gLe, n_gEq, n_gEq2, n_gLe2, n_gLt2, n_m1, n_add, n_mul, n_lt, n_le, n_eq, n_cl, n_in, n_rem, n_mlt, n_mle, n_ltm, n_lem, n_eqm, n_meq, n_bit, n_shl, n_b0, n_b1, n_sub, n_inT, nT, nF, lT, lF, eT, eF, not_false_eq_true, not_true_eq_false, sI_at, sI_c, sI_j, aI_at, aI_c, sL_at, sL_c, sL_j, true_and, and_true, not_true_eq_false, not_false_eq_true, forall_const, true_implies, false_implies, implies_true, if_true, if_false, ite_true, ite_false, Bool.not_eq_true, Bool.not_eq_false, Bool.true_eq_false, Bool.false_eq_true, false_and, and_false, or_true, true_or, false_or, or_false]
      refine cm_isPerson W1 (fun g4 => ?_) (fun g4 => ?_)
      · have g3 := (hp_tk (a3 := a3) ok g2).trans g4
        obtain ⟨p, hp, rfl⟩ := (inR_iff (by omega)).mp g4
        simp (disch := first | omega | assumption) only [n_lit, n_gLt, n_gLe, n_gEq, n_gEq2, n_gLe2, n_gLt2, n_m1, n_add, n_mul, n_lt, n_le, n_eq, n_cl, n_in, n_rem, n_mlt, n_mle, n_ltm, n_lem, n_eqm, n_meq, n_bit, n_shl, n_b0, n_b1, n_sub, n_inT, nT, nF, lT, lF, eT, eF, not_false_eq_true, not_true_eq_false, sI_at, sI_c, sI_j, aI_at, aI_c, sL_at, sL_c, sL_j, true_and, and_true, not_true_eq_false, not_false_eq_true, forall_const, true_implies, false_implies, implies_true, if_true, if_false, ite_true, ite_false, Bool.not_eq_true, Bool.not_eq_false, Bool.true_eq_false, Bool.false_eq_true, false_and, and_false, or_true, true_or, false_or, or_false]
        refine cm_deaf W1 P hp (fun I2 L2 f2 => ?_)
        have kk := k b I2 L2 (fun a ha => (f2 a (by omega)).trans (f1 a (by omega)))
        rw [g2, g3, n_cl (by omega), Bool.and_self, if_pos rfl] at kk
        exact kk
      · have g3 := (hp_tk (a3 := a3) ok g2).trans g4
        have kk := k b I1 L1 (fun a ha => f1 a (by omega))
        rw [g3, Bool.false_and] at kk
        simp (disch := first | omega | assumption) only [n_lit, n_gLt, n_gLe, n_gEq, n_gEq2, n_gLe2, n_gLt2, n_m1, n_add, n_mul, n_lt, n_le, n_eq, n_cl, n_in, n_rem, n_mlt, n_mle, n_ltm, n_lem, n_eqm, n_meq, n_bit, n_shl, n_b0, n_b1, n_sub, n_inT, nT, nF, lT, lF, eT, eF, not_false_eq_true, not_true_eq_false, sI_at, sI_c, sI_j, aI_at, aI_c, sL_at, sL_c, sL_j, true_and, and_true, not_true_eq_false, not_false_eq_true, forall_const, true_implies, false_implies, implies_true, if_true, if_false, ite_true, ite_false, Bool.not_eq_true, Bool.not_eq_false, Bool.true_eq_false, Bool.false_eq_true, false_and, and_false, or_true, true_or, false_or, or_false] at kk
        simp (disch := first | omega | assumption) only [n_lit, n_gLt, n_gLe, n_gEq, n_gEq2, n_gLe2, n_gLt2, n_m1, n_add, n_mul, n_lt, n_le, n_eq, n_cl, n_in, n_rem, n_mlt, n_mle, n_ltm, n_lem, n_eqm, n_meq, n_bit, n_shl, n_b0, n_b1, n_sub, n_inT, nT, nF, lT, lF, eT, eF, not_false_eq_true, not_true_eq_false, sI_at, sI_c, sI_j, aI_at, aI_c, sL_at, sL_c, sL_j, true_and, and_true, not_true_eq_false, not_false_eq_true, forall_const, true_implies, false_implies, implies_true, if_true, if_false, ite_true, ite_false, Bool.not_eq_true, Bool.not_eq_false, Bool.true_eq_false, Bool.false_eq_true, false_and, and_false, or_true, true_or, false_or, or_false]
        exact kk
    · have kk := k b I1 L (fun a ha => f1 a (by omega))
      rw [g2, Bool.and_false] at kk
      simp (disch := first | omega | assumption) only [n_lit, n_gLt, n_gLe, n_gEq, n_gEq2, n_gLe2, n_gLt2, n_m1, n_add, n_mul, n_lt, n_le, n_eq, n_cl, n_in, n_rem, n_mlt, n_mle, n_ltm, n_lem, n_eqm, n_meq, n_bit, n_shl, n_b0, n_b1, n_sub, n_inT, nT, nF, lT, lF, eT, eF, not_false_eq_true, not_true_eq_false, sI_at, sI_c, sI_j, aI_at, aI_c, sL_at, sL_c, sL_j, true_and, and_true, not_true_eq_false, not_false_eq_true, forall_const, true_implies, false_implies, implies_true, if_true, if_false, ite_true, ite_false, Bool.not_eq_true, Bool.not_eq_false, Bool.true_eq_false, Bool.false_eq_true, false_and, and_false, or_true, true_or, false_or, or_false] at kk
      simp (disch := first | omega | assumption) only [n_lit, n_gLt, n_gLe, n_gEq, n_gEq2, n_gLe2, n_gLt2, n_m1, n_add, n_mul, n_lt, n_le, n_eq, n_cl, n_in, n_rem, n_mlt, n_mle, n_ltm, n_lem, n_eqm, n_meq, n_bit, n_shl, n_b0, n_b1, n_sub, n_inT, nT, nF, lT, lF, eT, eF, not_false_eq_true, not_true_eq_false, sI_at, sI_c, sI_j, aI_at, aI_c, sL_at, sL_c, sL_j, true_and, and_true, not_true_eq_false, not_false_eq_true, forall_const, true_implies, false_implies, implies_true, if_true, if_false, ite_true, ite_false, Bool.not_eq_true, Bool.not_eq_false, Bool.true_eq_false, Bool.false_eq_true, false_and, and_false, or_true, true_or, false_or, or_false]
      exact kk
