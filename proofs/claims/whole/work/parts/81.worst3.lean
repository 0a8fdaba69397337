/-! WHAT-IFS: worst, against the reference -/
theorem WM_26 {v : Vil} {t : Tel} {x : Wi} {o : Nat} {w : Wd} {I I' : MI} {L L' : ML} (h : WM v t x o w I L) (h1 : ∀ j, j < 27 → j ≠ 26 → I' 186 j = I 186 j) (h2 : I' 187 = I 187) (h3 : L' 186 = L 186) : WM v t x o w (sI I' 186 26 (nI x.al.toNat)) L' := by
  have e := h.2.2.2.1.1
  refine h.fr (fun j hj => ?_) ((sI_c (by omega)).trans h2) h3
  by_cases c : j = 26
  · subst c
    rw [sI_at, e]
  · rw [sI_j c, h1 j hj c]
theorem WM_b1 {v : Vil} {t : Tel} {f g : Nat → Bool} {o : Nat} {w : Wd} {I : MI} {L : ML} {m : Int32} (hm : ∀ p, p < 32 → bt m p = g p) (h : WM v t (bgX f) o w I L) : WM v t (bgX g) o (mkW w.v v.m t (bgX g)) (sI I 186 25 m) L :=
  WM_bg hm (Or.inr ⟨f, rfl⟩) h.2.2.2.1.1 (WM_26 h (fun _ _ _ => rfl) rfl rfl)
theorem WM_b0 {v : Vil} {t : Tel} {o : Nat} {w : Wd} {I : MI} {L : ML} (h : WM v t wi0 o w I L) : WM v t (bgX (fun p => bt (I 186 25) p)) o (mkW w.v v.m t (bgX (fun p => bt (I 186 25) p))) (sI I 186 26 (nI 1)) L := by
  have W := WM_bg (I := sI I 186 26 (nI 1)) (m := I 186 25) (g := fun p => bt (I 186 25) p) (fun p _ => rfl) (Or.inl rfl) (sI_at _ _ _ _) (WM_26 (I' := sI I 186 26 (nI 1)) (L' := L) h (fun j _ hj => sI_j hj) (sI_c (by omega)) rfl)
  refine W.fr (fun j hj => ?_) (by rw [sI_c (by omega), sI_c (by omega), sI_c (by omega)]) rfl
  by_cases c : j = 25
  · subst c
    rw [sI_at, sI_j (by omega)]
  · rw [sI_j (I := sI I 186 26 (nI 1)) c]
def woE (B : Bk) (a1 a2 : Int32) (q p : Nat) : Nat := if q ≤ 1 then woA B a1 a2 p else woL B a1 a2 p
theorem cm_worst {B : Bk} {a1 a2 : Int32} {o q : Nat} {I1 : MI} {L1 : ML} (hq : q ≤ 3) (W : WM (B.vl a1.toNatClampNeg) (B.tlOf a2) wi0 o (B.wd a1 a2) I1 L1) {b : Bool} {K : Int32 → Bool → MI → ML → Prop} (hK : ∀ I' L', (∀ a, a < 186 ∨ a = 187 ∨ a = 188 ∨ a = 189 ∨ 202 ≤ a → I' a = I1 a) → K (qWo (woE B a1 a2 q) (B.wd a1 a2).v.n (nI (q % 2))) b I' L') : SW m_M_worst 34 [vr 22 186, un, un, vi (nI q), vi nM, vi (nI 0), vi (nI 0), un] [] b (sI I1 186 26 (nI 1)) L1 (kI K) := by
  have hn := W.1.2.1.1.2
  have hn1 := W.1.2.1.1.1
  have he : ∀ i, woE B a1 a2 q i ≤ 201 := fun i => by
    unfold woE
    split
    · exact woA_le hn i
    · exact rlN_le
  have loop : ∀ n i, i + n = (B.wd a1 a2).v.n → ∀ (f : Nat → Bool) (x5 : Int32) (I' : MI) (L' : ML), (∀ a, a < 186 ∨ a = 187 ∨ a = 188 ∨ a = 189 ∨ 202 ≤ a → I' a = I1 a) → WM (B.vl a1.toNatClampNeg) (B.tlOf a2) (bgX f) o (B.wx a1 a2 (bgX f)) I' L' → (∀ j, gsN (woE B a1 a2 q) i = some j → x5 = nI (woE B a1 a2 q j)) → SW m_M_worst 34 [vr 22 186, un, un, vi (nI q), vi (optI (gsN (woE B a1 a2 q) i)), vi x5, vi (nI i), un] [] b I' L' (kI K) := by
    intro n
    induction n with
    | zero =>
      intro i hi f x5 I' L' fr W1 h5
      obtain rfl : i = (B.wd a1 a2).v.n := by omega
      have kk := hK I' L' fr
      unfold qWo at kk
      obtain ⟨j, hj⟩ := gsN_some (e := woE B a1 a2 q) hn1
      have h5 := h5 j hj
      refine v_M_worst_34 (cm_people W1 ?_)
      refine ⟨fun _ => ⟨by decide, ?_⟩, fun z => absurd (show nI (B.wd a1 a2).v.n ≤ nI (B.wd a1 a2).v.n by rw [n_le (by omega) (by omega)]; exact Nat.le_refl _) z⟩
      rw [show nI q - nI q / (2 : Int32) * (2 : Int32) = nI (q % 2) from n_rem (d := 2) (by omega) (by omega) (by omega)]
      refine ⟨fun c => ?_, fun c => ?_⟩
      · rw [if_neg (show ¬ nI (q % 2) = nI 0 from c), hj] at kk
        rw [h5]
        exact kk
      · rw [if_pos (show nI (q % 2) = nI 0 from Decidable.not_not.mp c)] at kk
        exact kk
    | succ n ih =>
      intro i hi f x5 I' L' fr W1 h5
      obtain ⟨n1, n2⟩ := gsN_next (e := woE B a1 a2 q) (n := i)
      have b2 := he i
      have W2 : WM (B.vl a1.toNatClampNeg) (B.tlOf a2) (bgX (fun z => decide (z = i))) o (woW B a1 a2 i) (sI I' 186 25 (nI (2 ^ i))) L' := WM_b1 (g := fun z => decide (z = i)) (m := nI (2 ^ i)) (fun z hz => by
        rw [b_2p hz]
        exact decide_eq_decide.mpr ⟨fun z => z.symm, fun z => z.symm⟩) W1
      refine v_M_worst_34 (cm_people W1 ?_)
      refine ⟨fun z => absurd (show nI (B.wd a1 a2).v.n ≤ nI i from z) (by rw [n_le (by omega) (by omega)]; omega), fun _ => ?_⟩
      rw [show (1 : Int32) <<< (nI i &&& 31) = nI (2 ^ i) from n_shl (by omega), show nI i + (1 : Int32) = nI (i + 1) from n_add i 1]
      refine cm_everOf W2 (fun I3 L3 f3 m3 R => ?_)
      refine cm_bitsI (n := (woW B a1 a2 i).v.n) (f := fun q => anyN 201 (fun e => hold (woW B a1 a2 i) e q)) hn ?_
      have W3 := W2.frM f3 (m3 186 (by decide))
      have fr3 : ∀ a, a < 186 ∨ a = 187 ∨ a = 188 ∨ a = 189 ∨ 202 ≤ a → I3 a = I1 a := fun a ha => by rw [f3.1 a ha, sI_c (by omega), fr a ha]
      have nxt := fun x6 h => ih (i + 1) (by omega) (fun z => decide (z = i)) x6 I3 L3 fr3 W3 h
      -- one value against the best one
      have fin : ((optI (gsN (woE B a1 a2 q) i) < 0 → SW m_M_worst 34 [vr 22 186, un, un, vi (nI q), vi (nI i), vi (nI (woE B a1 a2 q i)), vi (nI (i + 1)), un] [] b I3 L3 (kI K)) ∧ (¬ optI (gsN (woE B a1 a2 q) i) < 0 → ((x5 < nI (woE B a1 a2 q i) → SW m_M_worst 34 [vr 22 186, un, un, vi (nI q), vi (nI i), vi (nI (woE B a1 a2 q i)), vi (nI (i + 1)), un] [] b I3 L3 (kI K)) ∧ (¬ x5 < nI (woE B a1 a2 q i) → SW m_M_worst 34 [vr 22 186, un, un, vi (nI q), vi (optI (gsN (woE B a1 a2 q) i)), vi x5, vi (nI (i + 1)), un] [] b I3 L3 (kI K))))) := by
        cases h : gsN (woE B a1 a2 q) i with
        | none =>
          have n1 := n1 h
          have g := nxt (nI (woE B a1 a2 q i)) (fun j hj => by
            rw [n1] at hj
            cases hj
            rfl)
          rw [n1] at g
          exact ⟨fun _ => g, fun z => absurd (show nM < nI 0 by decide) z⟩
        | some j =>
          have h5 := h5 j h
          have hj := gsN_lt h
          subst h5
          have b3 := he j
          have n2 := n2 j h
          refine ⟨fun z => absurd (show nI j < nI 0 from z) (by rw [n_lt (by omega) (by omega)]; omega), fun _ => ?_⟩
          rw [n_lt (by omega) (by omega)]
          refine ⟨fun z => ?_, fun z => ?_⟩
          · rw [if_pos z] at n2
            have g := nxt (nI (woE B a1 a2 q i)) (fun j hj => by
              rw [n2] at hj
              cases hj
              rfl)
            rw [n2] at g
            exact g
          · rw [if_neg z] at n2
            have g := nxt (nI (woE B a1 a2 q j)) (fun j2 hj => by
              rw [n2] at hj
              cases hj
              rfl)
            rw [n2] at g
            exact g
      refine ⟨fun c => ?_, fun c => ?_⟩
      · have c : q ≤ 1 := by
          have := c
          rw [show (1 : Int32) = nI 1 from rfl, n_le (by omega) (by omega)] at this
          exact this
        have e : woE B a1 a2 q i = woA B a1 a2 i := if_pos c
        rw [e] at fin
        exact fin
      · have c : ¬ q ≤ 1 := by
          have := c
          rw [show (1 : Int32) = nI 1 from rfl, n_le (by omega) (by omega)] at this
          exact this
        have e : woE B a1 a2 q i = rlN (rW (woW B a1 a2 i)) := if_neg c
        rw [e] at fin
        obtain ⟨r1, r2⟩ := R
        rw [r1, r2]
        cases er : rW (woW B a1 a2 i) with
        | none =>
          rw [er] at fin
          exact ⟨fun z => absurd (show nI 0 ≤ nM from z) (by decide), fun _ => fin⟩
        | some r =>
          rw [er] at fin
          have hr : r.1 ≤ 201 := by
            have := rgU_in (w := woW B a1 a2 i) (N := 201) (r := r) er
            omega
          exact ⟨fun _ => fin, fun z => absurd (show nI 0 ≤ nI r.1 by rw [n_le (by omega) (by omega)]; omega) z⟩
  exact loop (B.wd a1 a2).v.n 0 (by omega) _ (nI 0) _ L1 (fun a ha => sI_c (by omega)) (WM_b0 W) (fun j hj => by cases hj)
theorem op_worst : H_worst := by
  intro a1 a2 a3
  refine Op2.q (fun B => if (inR a3 4 && tkB B a1 a2) = true then qWo (woE B a1 a2 a3.toNatClampNeg) (B.wd a1 a2).v.n (nI (a3.toNatClampNeg % 2)) else nM) (fun B I b L K ok hc k => ?_) (fun B I b L K ok hm k => ?_)
  · refine v_S_worst_0 (c_takeW ok hc (fun g2 I1 L1 f1 W1 l0 => ?_) (fun g2 => ?_))
    · have hn := W1.vil.2.1.2
      simp (disch := first | omega | assumption) only [n_lit, n_gLt, n_gLe, n_gEq, n_gEq2, n_gLe2, n_gLt2, n_m1, n_add, n_mul, n_lt, n_le, n_eq, n_cl, n_in, n_rem, n_mlt, n_mle, n_ltm, n_lem, n_eqm, n_meq, n_bit, n_shl, n_b0, n_b1, n_sub, n_inT, nT, nF, lT, lF, eT, eF, not_false_eq_true, not_true_eq_false, sI_at, sI_c, sI_j, aI_at, aI_c, sL_at, sL_c, sL_j, true_and, and_true, not_true_eq_false, not_false_eq_true, forall_const, true_implies, false_implies, implies_true, if_true, if_false, ite_true, ite_false, Bool.not_eq_true, Bool.not_eq_false, Bool.true_eq_false, Bool.false_eq_true, false_and, and_false, or_true, true_or, false_or, or_false]
      cases g1 : inR a3 4 with
      | true =>
        obtain ⟨q, hq, rfl⟩ := (inR_iff (by decide)).mp g1
        have kk : ∀ (I2 : MI) (L2 : ML), (∀ a, a < 154 ∨ 186 ≤ a → I2 a = I1 a) → K (qWo (woE B a1 a2 q) (B.wd a1 a2).v.n (nI (q % 2))) b I2 L2 := fun I2 L2 f2 => by
          have kk := k b I2 L2 (fun a ha => (f2 a (by omega)).trans (f1 a (by omega)))
          rw [g1, g2, n_cl (by omega), Bool.and_self, if_pos rfl] at kk
          exact kk
        rcases (by omega : q = 0 ∨ q = 1 ∨ q = 2 ∨ q = 3) with rfl | rfl | rfl | rfl
        · simp (disch := first | omega | assumption) only [n_lit, n_gLt, n_gLe, n_gEq, n_gEq2, n_gLe2, n_gLt2, n_m1, n_add, n_mul, n_lt, n_le, n_eq, n_cl, n_in, n_rem, n_mlt, n_mle, n_ltm, n_lem, n_eqm, n_meq, n_bit, n_shl, n_b0, n_b1, n_sub, n_inT, nT, nF, lT, lF, eT, eF, not_false_eq_true, not_true_eq_false, sI_at, sI_c, sI_j, aI_at, aI_c, sL_at, sL_c, sL_j, true_and, and_true, not_true_eq_false, not_false_eq_true, forall_const, true_implies, false_implies, implies_true, if_true, if_false, ite_true, ite_false, Bool.not_eq_true, Bool.not_eq_false, Bool.true_eq_false, Bool.false_eq_true, false_and, and_false, or_true, true_or, false_or, or_false]
          exact c_widest ok g2 hn l0 kk
        · simp (disch := first | omega | assumption) only [n_lit, n_gLt, n_gLe, n_gEq, n_gEq2, n_gLe2, n_gLt2, n_m1, n_add, n_mul, n_lt, n_le, n_eq, n_cl, n_in, n_rem, n_mlt, n_mle, n_ltm, n_lem, n_eqm, n_meq, n_bit, n_shl, n_b0, n_b1, n_sub, n_inT, nT, nF, lT, lF, eT, eF, not_false_eq_true, not_true_eq_false, sI_at, sI_c, sI_j, aI_at, aI_c, sL_at, sL_c, sL_j, true_and, and_true, not_true_eq_false, not_false_eq_true, forall_const, true_implies, false_implies, implies_true, if_true, if_false, ite_true, ite_false, Bool.not_eq_true, Bool.not_eq_false, Bool.true_eq_false, Bool.false_eq_true, false_and, and_false, or_true, true_or, false_or, or_false]
          exact c_widest ok g2 hn l0 kk
        · have e : woE B a1 a2 2 = woL B a1 a2 := funext fun p => if_neg (by omega)
          rw [e] at kk
          simp (disch := first | omega | assumption) only [n_lit, n_gLt, n_gLe, n_gEq, n_gEq2, n_gLe2, n_gLt2, n_m1, n_add, n_mul, n_lt, n_le, n_eq, n_cl, n_in, n_rem, n_mlt, n_mle, n_ltm, n_lem, n_eqm, n_meq, n_bit, n_shl, n_b0, n_b1, n_sub, n_inT, nT, nF, lT, lF, eT, eF, not_false_eq_true, not_true_eq_false, sI_at, sI_c, sI_j, aI_at, aI_c, sL_at, sL_c, sL_j, true_and, and_true, not_true_eq_false, not_false_eq_true, forall_const, true_implies, false_implies, implies_true, if_true, if_false, ite_true, ite_false, Bool.not_eq_true, Bool.not_eq_false, Bool.true_eq_false, Bool.false_eq_true, false_and, and_false, or_true, true_or, false_or, or_false]
          exact c_longest (a := nI 0) ok g2 hn l0 kk
        · have e : woE B a1 a2 3 = woL B a1 a2 := funext fun p => if_neg (by omega)
          rw [e] at kk
          simp (disch := first | omega | assumption) only [n_lit, n_gLt, n_gLe, n_gEq, n_gEq2, n_gLe2, n_gLt2, n_m1, n_add, n_mul, n_lt, n_le, n_eq, n_cl, n_in, n_rem, n_mlt, n_mle, n_ltm, n_lem, n_eqm, n_meq, n_bit, n_shl, n_b0, n_b1, n_sub, n_inT, nT, nF, lT, lF, eT, eF, not_false_eq_true, not_true_eq_false, sI_at, sI_c, sI_j, aI_at, aI_c, sL_at, sL_c, sL_j, true_and, and_true, not_true_eq_false, not_false_eq_true, forall_const, true_implies, false_implies, implies_true, if_true, if_false, ite_true, ite_false, Bool.not_eq_true, Bool.not_eq_false, Bool.true_eq_false, Bool.false_eq_true, false_and, and_false, or_true, true_or, false_or, or_false]
          exact c_longest (a := nI 1) ok g2 hn l0 kk
      | false =>
        have kk := k b I1 L1 (fun a ha => f1 a (by omega))
        rw [g1, Bool.false_and] at kk
        simp (disch := first | omega | assumption) only [n_lit, n_gLt, n_gLe, n_gEq, n_gEq2, n_gLe2, n_gLt2, n_m1, n_add, n_mul, n_lt, n_le, n_eq, n_cl, n_in, n_rem, n_mlt, n_mle, n_ltm, n_lem, n_eqm, n_meq, n_bit, n_shl, n_b0, n_b1, n_sub, n_inT, nT, nF, lT, lF, eT, eF, not_false_eq_true, not_true_eq_false, sI_at, sI_c, sI_j, aI_at, aI_c, sL_at, sL_c, sL_j, true_and, and_true, not_true_eq_false, not_false_eq_true, forall_const, true_implies, false_implies, implies_true, if_true, if_false, ite_true, ite_false, Bool.not_eq_true, Bool.not_eq_false, Bool.true_eq_false, Bool.false_eq_true, false_and, and_false, or_true, true_or, false_or, or_false] at kk
        rcases inR_out (by decide) g1 with q | ⟨j, q1, q2, rfl⟩
        · have z0 := (n_nat q 0 (by omega)).2.1
          have z1 := (n_nat q 1 (by omega)).2.1
          have z2 := (n_nat q 2 (by omega)).2.1
          have z3 := (n_nat q 3 (by omega)).2.1
          simp (disch := first | omega | assumption) only [n_lit, n_gLt, n_gLe, n_gEq, n_gEq2, n_gLe2, n_gLt2, n_m1, n_add, n_mul, n_lt, n_le, n_eq, n_cl, n_in, n_rem, n_mlt, n_mle, n_ltm, n_lem, n_eqm, n_meq, n_bit, n_shl, n_b0, n_b1, n_sub, n_inT, nT, nF, lT, lF, eT, eF, not_false_eq_true, not_true_eq_false, sI_at, sI_c, sI_j, aI_at, aI_c, sL_at, sL_c, sL_j, true_and, and_true, not_true_eq_false, not_false_eq_true, forall_const, true_implies, false_implies, implies_true, if_true, if_false, ite_true, ite_false, Bool.not_eq_true, Bool.not_eq_false, Bool.true_eq_false, Bool.false_eq_true, false_and, and_false, or_true, true_or, false_or, or_false, z0, z1, z2, z3]
          exact kk
        · simp (disch := first | omega | assumption) only [n_lit, n_gLt, n_gLe, n_gEq, n_gEq2, n_gLe2, n_gLt2, n_m1, n_add, n_mul, n_lt, n_le, n_eq, n_cl, n_in, n_rem, n_mlt, n_mle, n_ltm, n_lem, n_eqm, n_meq, n_bit, n_shl, n_b0, n_b1, n_sub, n_inT, nT, nF, lT, lF, eT, eF, not_false_eq_true, not_true_eq_false, sI_at, sI_c, sI_j, aI_at, aI_c, sL_at, sL_c, sL_j, true_and, and_true, not_true_eq_false, not_false_eq_true, forall_const, true_implies, false_implies, implies_true, if_true, if_false, ite_true, ite_false, Bool.not_eq_true, Bool.not_eq_false, Bool.true_eq_false, Bool.false_eq_true, false_and, and_false, or_true, true_or, false_or, or_false]
          exact kk
    · have kk := k b I L (fun _ _ => rfl)
      rw [g2, Bool.and_false] at kk
      simp (disch := first | omega | assumption) only [n_lit, n_gLt, n_gLe, n_gEq, n_gEq2, n_gLe2, n_gLt2, n_m1, n_add, n_mul, n_lt, n_le, n_eq, n_cl, n_in, n_rem, n_mlt, n_mle, n_ltm, n_lem, n_eqm, n_meq, n_bit, n_shl, n_b0, n_b1, n_sub, n_inT, nT, nF, lT, lF, eT, eF, not_false_eq_true, not_true_eq_false, sI_at, sI_c, sI_j, aI_at, aI_c, sL_at, sL_c, sL_j, true_and, and_true, not_true_eq_false, not_false_eq_true, forall_const, true_implies, false_implies, implies_true, if_true, if_false, ite_true, ite_false, Bool.not_eq_true, Bool.not_eq_false, Bool.true_eq_false, Bool.false_eq_true, false_and, and_false, or_true, true_or, false_or, or_false] at kk
      simp (disch := first | omega | assumption) only [n_lit, n_gLt, n_gLe, n_gEq, n_gEq2, n_gLe2, n_gLt2, n_m1, n_add, n_mul, n_lt, n_le, n_eq, n_cl, n_in, n_rem, n_mlt, n_mle, n_ltm, n_lem, n_eqm, n_meq, n_bit, n_shl, n_b0, n_b1, n_sub, n_inT, nT, nF, lT, lF, eT, eF, not_false_eq_true, not_true_eq_false, sI_at, sI_c, sI_j, aI_at, aI_c, sL_at, sL_c, sL_j, true_and, and_true, not_true_eq_false, not_false_eq_true, forall_const, true_implies, false_implies, implies_true, if_true, if_false, ite_true, ite_false, Bool.not_eq_true, Bool.not_eq_false, Bool.true_eq_false, Bool.false_eq_true, false_and, and_false, or_true, true_or, false_or, or_false]
      exact kk
  · refine v_M_worst_0 (cm_isIn0 (n := 3) (by decide) (fun g1 => ?_) (fun g1 => ?_))
    · obtain ⟨q, hq, rfl⟩ := (inR_iff (by decide)).mp g1
      simp (disch := first | omega | assumption) only [n_lit, n_gLt, n_gLe, n_gEq, n_gEq2, n_gLe2, n_gLt2, n_m1, n_add, n_mul, n_lt, n_le, n_eq, n_cl, n_in, n_rem, n_mlt, n_mle, n_ltm, n_lem, n_eqm, n_meq, n_bit, n_shl, n_b0, n_b1, n_sub, n_inT, nT, nF, lT, lF, eT, eF, not_false_eq_true, not_true_eq_false, sI_at, sI_c, sI_j, aI_at, aI_c, sL_at, sL_c, sL_j, true_and, and_true, not_true_eq_false, not_false_eq_true, forall_const, true_implies, false_implies, implies_true, if_true, if_false, ite_true, ite_false, Bool.not_eq_true, Bool.not_eq_false, Bool.true_eq_false, Bool.false_eq_true, false_and, and_false, or_true, true_or, false_or, or_false]
      refine cm_bothW ok hm (fun g2 I1 L1 o f1 W1 => ?_) (fun g2 I1 f1 => ?_)
      · simp (disch := first | omega | assumption) only [n_lit, n_gLt, n_gLe, n_gEq, n_gEq2, n_gLe2, n_gLt2, n_m1, n_add, n_mul, n_lt, n_le, n_eq, n_cl, n_in, n_rem, n_mlt, n_mle, n_ltm, n_lem, n_eqm, n_meq, n_bit, n_shl, n_b0, n_b1, n_sub, n_inT, nT, nF, lT, lF, eT, eF, not_false_eq_true, not_true_eq_false, sI_at, sI_c, sI_j, aI_at, aI_c, sL_at, sL_c, sL_j, true_and, and_true, not_true_eq_false, not_false_eq_true, forall_const, true_implies, false_implies, implies_true, if_true, if_false, ite_true, ite_false, Bool.not_eq_true, Bool.not_eq_false, Bool.true_eq_false, Bool.false_eq_true, false_and, and_false, or_true, true_or, false_or, or_false]
        refine cm_worst (by omega) W1 (fun I2 L2 f2 => ?_)
        have kk := k b I2 L2 (fun a ha => (f2 a (by omega)).trans (f1 a (by omega)))
        rw [g1, g2, n_cl (by omega), Bool.and_self, if_pos rfl] at kk
        exact kk
      · have kk := k b I1 L (fun a ha => f1 a (by omega))
        rw [g2, Bool.and_false] at kk
        simp (disch := first | omega | assumption) only [n_lit, n_gLt, n_gLe, n_gEq, n_gEq2, n_gLe2, n_gLt2, n_m1, n_add, n_mul, n_lt, n_le, n_eq, n_cl, n_in, n_rem, n_mlt, n_mle, n_ltm, n_lem, n_eqm, n_meq, n_bit, n_shl, n_b0, n_b1, n_sub, n_inT, nT, nF, lT, lF, eT, eF, not_false_eq_true, not_true_eq_false, sI_at, sI_c, sI_j, aI_at, aI_c, sL_at, sL_c, sL_j, true_and, and_true, not_true_eq_false, not_false_eq_true, forall_const, true_implies, false_implies, implies_true, if_true, if_false, ite_true, ite_false, Bool.not_eq_true, Bool.not_eq_false, Bool.true_eq_false, Bool.false_eq_true, false_and, and_false, or_true, true_or, false_or, or_false] at kk
        simp (disch := first | omega | assumption) only [n_lit, n_gLt, n_gLe, n_gEq, n_gEq2, n_gLe2, n_gLt2, n_m1, n_add, n_mul, n_lt, n_le, n_eq, n_cl, n_in, n_rem, n_mlt, n_mle, n_ltm, n_lem, n_eqm, n_meq, n_bit, n_shl, n_b0, n_b1, n_sub, n_inT, nT, nF, lT, lF, eT, eF, not_false_eq_true, not_true_eq_false, sI_at, sI_c, sI_j, aI_at, aI_c, sL_at, sL_c, sL_j, true_and, and_true, not_true_eq_false, not_false_eq_true, forall_const, true_implies, false_implies, implies_true, if_true, if_false, ite_true, ite_false, Bool.not_eq_true, Bool.not_eq_false, Bool.true_eq_false, Bool.false_eq_true, false_and, and_false, or_true, true_or, false_or, or_false]
        exact kk
    · have kk := k b I L (fun _ _ => rfl)
      rw [g1, Bool.false_and] at kk
      simp (disch := first | omega | assumption) only [n_lit, n_gLt, n_gLe, n_gEq, n_gEq2, n_gLe2, n_gLt2, n_m1, n_add, n_mul, n_lt, n_le, n_eq, n_cl, n_in, n_rem, n_mlt, n_mle, n_ltm, n_lem, n_eqm, n_meq, n_bit, n_shl, n_b0, n_b1, n_sub, n_inT, nT, nF, lT, lF, eT, eF, not_false_eq_true, not_true_eq_false, sI_at, sI_c, sI_j, aI_at, aI_c, sL_at, sL_c, sL_j, true_and, and_true, not_true_eq_false, not_false_eq_true, forall_const, true_implies, false_implies, implies_true, if_true, if_false, ite_true, ite_false, Bool.not_eq_true, Bool.not_eq_false, Bool.true_eq_false, Bool.false_eq_true, false_and, and_false, or_true, true_or, false_or, or_false] at kk
      simp (disch := first | omega | assumption) only [n_lit, n_gLt, n_gLe, n_gEq, n_gEq2, n_gLe2, n_gLt2, n_m1, n_add, n_mul, n_lt, n_le, n_eq, n_cl, n_in, n_rem, n_mlt, n_mle, n_ltm, n_lem, n_eqm, n_meq, n_bit, n_shl, n_b0, n_b1, n_sub, n_inT, nT, nF, lT, lF, eT, eF, not_false_eq_true, not_true_eq_false, sI_at, sI_c, sI_j, aI_at, aI_c, sL_at, sL_c, sL_j, true_and, and_true, not_true_eq_false, not_false_eq_true, forall_const, true_implies, false_implies, implies_true, if_true, if_false, ite_true, ite_false, Bool.not_eq_true, Bool.not_eq_false, Bool.true_eq_false, Bool.false_eq_true, false_and, and_false, or_true, true_or, false_or, or_false]
      exact kk
