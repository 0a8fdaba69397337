/-! TEXTS: the class's tokens -/
theorem c_isLetter {c : Nat} (hc : c < 2147483648) {b : Bool} {I : MI} {L : ML} {K : Int32 → Bool → MI → ML → Prop} (hK : K (nI (isLt c).toNat) b I L) : CI m_Reader_isLetter [vi (nI c)] b I L K := by
  refine v_Reader_isLetter_0 ?_
  unfold isLt at hK
  by_cases h1 : 97 ≤ c
  · by_cases h2 : c ≤ 122
    · rw [decide_eq_true h1, decide_eq_true h2] at hK
      have hK : K (nI 1) b I L := hK
      simp (disch := first | omega | assumption) only [n_lit, n_gLt, n_gLe, n_gEq, n_gEq2, n_gLe2, n_gLt2, n_m1, n_add, n_mul, n_lt, n_le, n_eq, n_cl, n_in, n_rem, n_mlt, n_mle, n_ltm, n_lem, n_eqm, n_meq, n_bit, n_shl, n_b0, n_b1, n_sub, n_inT, nT, nF, lT, lF, eT, eF, not_false_eq_true, not_true_eq_false, sI_at, sI_c, sI_j, aI_at, aI_c, sL_at, sL_c, sL_j, true_and, and_true, not_true_eq_false, not_false_eq_true, forall_const, true_implies, false_implies, implies_true, if_true, if_false, ite_true, ite_false, Bool.not_eq_true, Bool.not_eq_false, Bool.true_eq_false, Bool.false_eq_true, false_and, and_false, or_true, true_or, false_or, or_false]
      exact hK
    · rw [decide_eq_false h2, Bool.and_false] at hK
      have hK : K (nI 0) b I L := hK
      simp (disch := first | omega | assumption) only [n_lit, n_gLt, n_gLe, n_gEq, n_gEq2, n_gLe2, n_gLt2, n_m1, n_add, n_mul, n_lt, n_le, n_eq, n_cl, n_in, n_rem, n_mlt, n_mle, n_ltm, n_lem, n_eqm, n_meq, n_bit, n_shl, n_b0, n_b1, n_sub, n_inT, nT, nF, lT, lF, eT, eF, not_false_eq_true, not_true_eq_false, sI_at, sI_c, sI_j, aI_at, aI_c, sL_at, sL_c, sL_j, true_and, and_true, not_true_eq_false, not_false_eq_true, forall_const, true_implies, false_implies, implies_true, if_true, if_false, ite_true, ite_false, Bool.not_eq_true, Bool.not_eq_false, Bool.true_eq_false, Bool.false_eq_true, false_and, and_false, or_true, true_or, false_or, or_false]
      exact hK
  · rw [decide_eq_false h1, Bool.false_and] at hK
    have hK : K (nI 0) b I L := hK
    simp (disch := first | omega | assumption) only [n_lit, n_gLt, n_gLe, n_gEq, n_gEq2, n_gLe2, n_gLt2, n_m1, n_add, n_mul, n_lt, n_le, n_eq, n_cl, n_in, n_rem, n_mlt, n_mle, n_ltm, n_lem, n_eqm, n_meq, n_bit, n_shl, n_b0, n_b1, n_sub, n_inT, nT, nF, lT, lF, eT, eF, not_false_eq_true, not_true_eq_false, sI_at, sI_c, sI_j, aI_at, aI_c, sL_at, sL_c, sL_j, true_and, and_true, not_true_eq_false, not_false_eq_true, forall_const, true_implies, false_implies, implies_true, if_true, if_false, ite_true, ite_false, Bool.not_eq_true, Bool.not_eq_false, Bool.true_eq_false, Bool.false_eq_true, false_and, and_false, or_true, true_or, false_or, or_false]
    exact hK
theorem c_isDigit {c : Nat} (hc : c < 2147483648) {b : Bool} {I : MI} {L : ML} {K : Int32 → Bool → MI → ML → Prop} (hK : K (nI (isDg c).toNat) b I L) : CI m_Reader_isDigit [vi (nI c)] b I L K := by
  refine v_Reader_isDigit_0 ?_
  unfold isDg at hK
  by_cases h1 : 48 ≤ c
  · by_cases h2 : c ≤ 57
    · rw [decide_eq_true h1, decide_eq_true h2] at hK
      have hK : K (nI 1) b I L := hK
      simp (disch := first | omega | assumption) only [n_lit, n_gLt, n_gLe, n_gEq, n_gEq2, n_gLe2, n_gLt2, n_m1, n_add, n_mul, n_lt, n_le, n_eq, n_cl, n_in, n_rem, n_mlt, n_mle, n_ltm, n_lem, n_eqm, n_meq, n_bit, n_shl, n_b0, n_b1, n_sub, n_inT, nT, nF, lT, lF, eT, eF, not_false_eq_true, not_true_eq_false, sI_at, sI_c, sI_j, aI_at, aI_c, sL_at, sL_c, sL_j, true_and, and_true, not_true_eq_false, not_false_eq_true, forall_const, true_implies, false_implies, implies_true, if_true, if_false, ite_true, ite_false, Bool.not_eq_true, Bool.not_eq_false, Bool.true_eq_false, Bool.false_eq_true, false_and, and_false, or_true, true_or, false_or, or_false]
      exact hK
    · rw [decide_eq_false h2, Bool.and_false] at hK
      have hK : K (nI 0) b I L := hK
      simp (disch := first | omega | assumption) only [n_lit, n_gLt, n_gLe, n_gEq, n_gEq2, n_gLe2, n_gLt2, n_m1, n_add, n_mul, n_lt, n_le, n_eq, n_cl, n_in, n_rem, n_mlt, n_mle, n_ltm, n_lem, n_eqm, n_meq, n_bit, n_shl, n_b0, n_b1, n_sub, n_inT, nT, nF, lT, lF, eT, eF, not_false_eq_true, not_true_eq_false, sI_at, sI_c, sI_j, aI_at, aI_c, sL_at, sL_c, sL_j, true_and, and_true, not_true_eq_false, not_false_eq_true, forall_const, true_implies, false_implies, implies_true, if_true, if_false, ite_true, ite_false, Bool.not_eq_true, Bool.not_eq_false, Bool.true_eq_false, Bool.false_eq_true, false_and, and_false, or_true, true_or, false_or, or_false]
      exact hK
  · rw [decide_eq_false h1, Bool.false_and] at hK
    have hK : K (nI 0) b I L := hK
    simp (disch := first | omega | assumption) only [n_lit, n_gLt, n_gLe, n_gEq, n_gEq2, n_gLe2, n_gLt2, n_m1, n_add, n_mul, n_lt, n_le, n_eq, n_cl, n_in, n_rem, n_mlt, n_mle, n_ltm, n_lem, n_eqm, n_meq, n_bit, n_shl, n_b0, n_b1, n_sub, n_inT, nT, nF, lT, lF, eT, eF, not_false_eq_true, not_true_eq_false, sI_at, sI_c, sI_j, aI_at, aI_c, sL_at, sL_c, sL_j, true_and, and_true, not_true_eq_false, not_false_eq_true, forall_const, true_implies, false_implies, implies_true, if_true, if_false, ite_true, ite_false, Bool.not_eq_true, Bool.not_eq_false, Bool.true_eq_false, Bool.false_eq_true, false_and, and_false, or_true, true_or, false_or, or_false]
    exact hK
/-- the tape of the class -/
def TP (y : Nat → Nat) (n : Nat) (I : MI) : Prop := (I 4 1 = nI n ∧ n ≤ 600) ∧ (∀ j, j < n → I 5 j = nI (y j)) ∧ ∀ j, j < n → y j < 256
theorem TP.fr {y : Nat → Nat} {n : Nat} {I I' : MI} (h : TP y n I) (h4 : I' 4 = I 4) (h5 : I' 5 = I 5) : TP y n I' := by
  unfold TP
  rw [h4, h5]
  exact h
theorem c_at {y : Nat → Nat} {n p : Nat} {I : MI} (T : TP y n I) (hp : p ≤ 600) {b : Bool} {L : ML} {K : Int32 → Bool → MI → ML → Prop} (h1 : p < n → K (nI (y p)) b I L) (h2 : n ≤ p → K nM b I L) : CI m_Tape_at [vr 17 4, vi (nI p)] b I L K := by
  obtain ⟨⟨t1, t2⟩, t3, t4⟩ := T
  refine v_Tape_at_0 ⟨fun q => absurd (show nI p < nI 0 from q) (by rw [n_lt (by omega) (by omega)]; omega), fun _ => ?_⟩
  rw [t1, n_le (by omega) (by omega)]
  refine ⟨fun q => h2 q, fun q => ⟨by rw [n_in (by omega)]; omega, ?_⟩⟩
  rw [n_cl (by omega), t3 p (by omega)]
  exact h1 (by omega)
/-- the token that the reader stands at -/
def RT (y : Nat → Nat) (n w : Nat) (I : MI) : Prop := I 139 5 = nI (nxt y n w) ∧ I 139 6 = nI (kin y n w) ∧ I 139 7 = nI w ∧ (kin y n w = 2 → I 139 8 = nI (nmb y n w))
def rfr (I I' : MI) : Prop := (∀ a, a ≠ 139 → I' a = I a) ∧ ∀ j, j ≠ 5 → j ≠ 6 → j ≠ 7 → j ≠ 8 → I' 139 j = I 139 j
theorem rfr.trans {I I' I'' : MI} (h : rfr I I') (k : rfr I' I'') : rfr I I'' := ⟨fun a ha => (k.1 a ha).trans (h.1 a ha), fun j q1 q2 q3 q4 => (k.2 j q1 q2 q3 q4).trans (h.2 j q1 q2 q3 q4)⟩
theorem rfr_s {I : MI} {j : Nat} {v : Int32} (h : j = 5 ∨ j = 6 ∨ j = 7 ∨ j = 8) : rfr I (sI I 139 j v) := ⟨fun a ha => sI_c ha, fun i q1 q2 q3 q4 => sI_j (by omega)⟩
theorem rfr.tp {y : Nat → Nat} {n : Nat} {I I' : MI} (h : rfr I I') (T : TP y n I) : TP y n I' := T.fr (h.1 4 (by omega)) (h.1 5 (by omega))
theorem n_m1ne {c : Nat} (hc : c < 2147483648) : ¬ nI c = nM := by
  rw [n_eqm hc]
  exact id
/-- a row of digits -/
theorem c_digits {y : Nat → Nat} {n w : Nat} {L : ML} {K : Bool → MI → ML → Prop} (hw : w < n) (hd : isDg (y w) = true) (hl : isLt (y w) = false) : ∀ k p, p + k = rnT isDg y n w → w ≤ p → ∀ I : MI, TP y n I → I 139 5 = nI p → I 139 7 = nI w → (p = w → I 139 8 = nI 0) → (p = w + 1 → I 139 8 = nI (y w - 48)) → (p = w + 2 → I 139 8 = nI (10 * (y w - 48) + (y (w + 1) - 48))) → (∃ x, x < 1000 ∧ I 139 8 = nI x) → (∀ I', rfr I I' → RT y n w I' → K true I' L) → SW m_Reader_readNumber 5 [vr 13 139] [] true I L (kV K) := by
  have hle := rnT_le (f := isDg) (y := y) (n := n) (p := w) (by omega)
  have fin : ∀ (I : MI), TP y n I → I 139 5 = nI (rnT isDg y n w) → I 139 7 = nI w → (rnT isDg y n w = w + 1 → I 139 8 = nI (y w - 48)) → (rnT isDg y n w = w + 2 → I 139 8 = nI (10 * (y w - 48) + (y (w + 1) - 48))) → (∀ I', rfr I I' → RT y n w I' → K true I' L) → (((2 : Int32) < ((I 139 5) - (I 139 7)) → K true (sI I 139 6 (4 : Int32)) L) ∧ (¬ (2 : Int32) < ((I 139 5) - (I 139 7)) → K true (sI I 139 6 (2 : Int32)) L)) := by
    intro I T e5 e7 e81 e82 kk
    have lt := rnT_lt (f := isDg) (y := y) hw hd
    have T2 := T.1.2
    rw [e5, e7, n_sub (by omega), show (2 : Int32) = nI 2 from rfl, n_lt (by omega) (by omega)]
    have ek : ∀ v : Int32, v = nI (kin y n w) → (kin y n w = 2 → I 139 8 = nI (nmb y n w)) → K true (sI I 139 6 v) L := fun v hv h2 => kk _ (rfr_s (by omega)) ⟨by
      rw [sI_j (by omega), e5]
      unfold nxt
      rw [if_neg (by omega), if_neg (by rw [hl]; exact Bool.false_ne_true), if_pos hd], by rw [sI_at, hv], by rw [sI_j (by omega), e7], fun q => by rw [sI_j (by omega)]; exact h2 q⟩
    have kd : kin y n w = if rnT isDg y n w ≤ w + 2 then 2 else 4 := by
      unfold kin
      rw [if_neg (by omega), if_neg (by rw [hl]; exact Bool.false_ne_true), if_pos hd]
    refine ⟨fun q => ?_, fun q => ?_⟩
    · rw [if_neg (by omega)] at kd
      exact ek 4 (by rw [kd]; rfl) (fun z => by rw [kd] at z; cases z)
    · rw [if_pos (by omega)] at kd
      refine ek 2 (by rw [kd]; rfl) (fun _ => ?_)
      unfold nmb
      by_cases c : rnT isDg y n w = w + 1
      · rw [if_pos c]
        exact e81 c
      · rw [if_neg c]
        exact e82 (by omega)
  intro k
  induction k with
  | zero =>
    intro p hp hwp I T e5 e7 e80 e81 e82 _ kk
    have T2 := T.1.2
    rw [Nat.add_zero] at hp
    subst hp
    refine v_Reader_readNumber_5 ⟨rfl, fun _ => fin I T e5 e7 e81 e82 kk, fun q => ⟨rfl, ?_⟩⟩
    rw [e5, T.1.1, n_le (by omega) (by omega)] at q
    rw [e5]
    refine c_at T (by omega) (fun hpn => c_isDigit (by have := T.2.2 _ hpn; omega) ⟨fun _ => fin I T e5 e7 e81 e82 kk, fun z => ?_⟩) (fun z => absurd z q)
    rw [rnT_end (f := isDg) (y := y) (by omega) hpn] at z
    exact absurd rfl z
  | succ k ih =>
    intro p hp hwp I T e5 e7 e80 e81 e82 ⟨x, hx, e8⟩ kk
    have T2 := T.1.2
    have dp := rnT_in (f := isDg) (y := y) (n := n) (p := w) (q := p) (by omega) hwp (by omega)
    have dl := dg_le dp
    refine v_Reader_readNumber_5 ⟨rfl, fun q => absurd q (by rw [e5, T.1.1, n_le (by omega) (by omega)]; omega), fun _ => ⟨rfl, ?_⟩⟩
    rw [e5]
    refine c_at T (by omega) (fun hpn => c_isDigit (by omega) ⟨fun z => absurd z (by rw [dp]; decide), fun _ => ⟨rfl, ?_⟩⟩) (fun z => absurd z (by omega))
    rw [e5]
    refine c_at T (by omega) (fun _ => ⟨by decide, ?_⟩) (fun z => absurd z (by omega))
    rw [e8, e5, show nI p + (1 : Int32) = nI (p + 1) from n_add p 1]
    have ev : nI x * (10 : Int32) + nI (y p) - (48 : Int32) = nI (x * 10 + y p - 48) := by
      rw [show (10 : Int32) = nI 10 from rfl, n_mul, n_add]
      exact n_sub (b := 48) (by omega)
    rw [ev, show nI (x * 10 + y p - 48) - nI (x * 10 + y p - 48) / (1000 : Int32) * (1000 : Int32) = nI ((x * 10 + y p - 48) % 1000) from n_rem (d := 1000) (by omega) (by omega) (by omega)]
    refine ih (p + 1) (by omega) (by omega) _ (T.fr (by rw [sI_c (by omega), sI_c (by omega)]) (by rw [sI_c (by omega), sI_c (by omega)])) (sI_at _ _ _ _) (by rw [sI_j (by omega), sI_j (by omega)]; exact e7) (fun q => by omega) (fun q => ?_) (fun q => ?_) ⟨_, Nat.mod_lt _ (by omega), by rw [sI_j (by omega), sI_at]⟩ (fun I' f r => kk I' (((rfr_s (by omega)).trans (rfr_s (by omega))).trans f) r)
    · rw [sI_j (by omega), sI_at]
      have e : p = w := by omega
      have := e80 e
      rw [e8] at this
      have x0 : x = 0 := by
        rw [n_eq (by omega) (by omega)] at this
        exact this
      rw [x0, e, Nat.zero_mul, Nat.zero_add, Nat.mod_eq_of_lt (by rw [e] at dl; omega)]
    · rw [sI_j (by omega), sI_at]
      have e : p = w + 1 := by omega
      have := e81 e
      rw [e8] at this
      have d0 := dg_le hd
      have x0 : x = y w - 48 := by
        rw [n_eq (by omega) (by omega)] at this
        exact this
      rw [e] at dl
      rw [x0, e, Nat.mod_eq_of_lt (by omega)]
      congr 1
      omega
theorem c_next {y : Nat → Nat} {n p : Nat} {I : MI} {L : ML} (T : TP y n I) (hp : p ≤ n) (e5 : I 139 5 = nI p) {K : Bool → MI → ML → Prop} (hK : ∀ I', rfr I I' → RT y n (whr y n p) I' → K true I' L) : CV m_Reader_next [vr 13 139] true I L K := by
  have T2 := T.1.2
  -- a row of letters
  have letters : ∀ w, w < n → isLt (y w) = true → ∀ k q, q + k = rnT isLt y n w → w ≤ q → ∀ I1 : MI, TP y n I1 → I1 139 5 = nI q → I1 139 6 = nI 1 → I1 139 7 = nI w → (∀ I', rfr I1 I' → RT y n w I' → K true I' L) → SW m_Reader_next 104 [vr 13 139, un] [] true I1 L (kV K) := by
    intro w hw hl k
    have hle := rnT_le (f := isLt) (y := y) (n := n) (p := w) (by omega)
    have kd : kin y n w = 1 := kin_1.mpr ⟨hw, hl⟩
    have fin : ∀ I1 : MI, I1 139 5 = nI (rnT isLt y n w) → I1 139 6 = nI 1 → I1 139 7 = nI w → RT y n w I1 := fun I1 q5 q6 q7 => ⟨by
      rw [q5]
      unfold nxt
      rw [if_neg (by omega), if_pos hl], by rw [q6, kd], q7, fun z => by rw [kd] at z; cases z⟩
    induction k with
    | zero =>
      intro q hq hwq I1 T1 q5 q6 q7 kk
      rw [Nat.add_zero] at hq
      subst hq
      refine v_Reader_next_104 ⟨rfl, fun _ => kk I1 ⟨fun _ _ => rfl, fun _ _ _ _ _ => rfl⟩ (fin I1 q5 q6 q7), fun z => ⟨rfl, ?_⟩⟩
      rw [q5, T1.1.1, n_le (by omega) (by omega)] at z
      rw [q5]
      refine c_at T1 (by omega) (fun hpn => c_isLetter (by have := T1.2.2 _ hpn; omega) ⟨fun _ => kk I1 ⟨fun _ _ => rfl, fun _ _ _ _ _ => rfl⟩ (fin I1 q5 q6 q7), fun g => ?_⟩) (fun g => absurd g z)
      rw [rnT_end (f := isLt) (y := y) (by omega) hpn] at g
      exact absurd rfl g
    | succ k ih =>
      intro q hq hwq I1 T1 q5 q6 q7 kk
      have dp := rnT_in (f := isLt) (y := y) (n := n) (p := w) (q := q) (by omega) hwq (by omega)
      have dl := lt_le dp
      refine v_Reader_next_104 ⟨rfl, fun z => absurd z (by rw [q5, T1.1.1, n_le (by omega) (by omega)]; omega), fun _ => ⟨rfl, ?_⟩⟩
      rw [q5]
      refine c_at T1 (by omega) (fun hpn => c_isLetter (by omega) ⟨fun z => absurd z (by rw [dp]; decide), fun _ => ?_⟩) (fun z => absurd z (by omega))
      rw [q5, show nI q + (1 : Int32) = nI (q + 1) from n_add q 1]
      exact ih (q + 1) (by omega) (by omega) _ ((rfr_s (by omega)).tp T1) (sI_at _ _ _ _) (by rw [sI_j (by omega)]; exact q6) (by rw [sI_j (by omega)]; exact q7) (fun I' f r => kk I' ((rfr_s (by omega)).trans f) r)
  -- behind the blanks
  have loop : ∀ k q, q + k = n → ∀ I1 : MI, TP y n I1 → I1 139 5 = nI q → (∀ I', rfr I1 I' → RT y n (whr y n q) I' → K true I' L) → SW m_Reader_next 0 [vr 13 139, un] [] true I1 L (kV K) ∧ CV m_Reader_next [vr 13 139] true I1 L K := by
    intro k
    induction k with
    | zero =>
      intro q hq I1 T1 q5 kk
      obtain rfl : q = n := by omega
      have ew : whr y q q = q := rnT_out (Nat.le_refl _)
      rw [ew] at kk
      have kd : kin y q q = 0 := kin_0 (Nat.le_refl _)
      have en : nxt y q q = q := if_pos (Nat.le_refl _)
      have T3 := (rfr_s (I := I1) (j := 7) (v := nI q) (by omega)).tp T1
      have g : CI m_Tape_at [vr 17 4, vi (nI q)] true (sI I1 139 7 (nI q)) L (fun v_1 b_1 I_1 L_1 => ((¬ v_1 = (-1 : Int32) → CI m_Reader_isLetter [vi v_1] b_1 I_1 L_1 (fun v_2 b_2 I_2 L_2 => ((v_2 = 0 → CI m_Reader_isDigit [vi v_1] b_2 I_2 L_2 (fun v_3 b_3 I_3 L_3 => ((v_3 = 0 → ((¬ v_1 = (59 : Int32) → K b_3 (sI (sI I_3 139 6 (4 : Int32)) 139 5 ((I_3 139 5) + (1 : Int32))) L_3) ∧ (¬ (¬ v_1 = (59 : Int32)) → K b_3 (sI (sI I_3 139 6 (3 : Int32)) 139 5 ((I_3 139 5) + (1 : Int32))) L_3))) ∧ (¬ v_3 = 0 → CV m_Reader_readNumber [vr 13 139] b_3 I_3 L_3 (fun b_4 I_4 L_4 => K b_4 I_4 L_4))))) ∧ (¬ v_2 = 0 → SW m_Reader_next 104 [vr 13 139, un] [] b_2 (sI I_2 139 6 (1 : Int32)) L_2 (kV K))))) ∧ (¬ (¬ v_1 = (-1 : Int32)) → K b_1 (sI I_1 139 6 (0 : Int32)) L_1))) := by
        refine c_at T3 (by omega) (fun z => absurd z (by omega)) (fun _ => ⟨fun z => absurd rfl z, fun _ => ?_⟩)
        refine kk _ ((rfr_s (by omega)).trans (rfr_s (by omega))) ⟨?_, ?_, ?_, fun z => by rw [kd] at z; cases z⟩
        · rw [sI_j (by omega), sI_j (by omega), q5, en]
        · rw [sI_at, kd]
          rfl
        · rw [sI_j (by omega), sI_at]
      have go : ¬ I1 4 1 ≤ I1 139 5 → False := fun z => z (by rw [q5, T1.1.1, n_le (by omega) (by omega)]; exact Nat.le_refl _)
      rw [← q5] at g
      exact ⟨v_Reader_next_h0 ⟨rfl, fun _ => ⟨rfl, g⟩, fun z => (go z).elim⟩, v_Reader_next_0 ⟨rfl, fun _ => ⟨rfl, g⟩, fun z => (go z).elim⟩⟩
    | succ k ih =>
      intro q hq I1 T1 q5 kk
      have hqn : q < n := by omega
      have hy := T1.2.2 q hqn
      have stp := ih (q + 1) (by omega) (sI I1 139 5 (nI (q + 1))) ((rfr_s (by omega)).tp T1) (sI_at _ _ _ _)
      have blank : isBl (y q) = true → SW m_Reader_next 0 [vr 13 139, un] [] true (sI I1 139 5 (nI (q + 1))) L (kV K) := fun hb => by
        refine (stp (fun I' f r => ?_)).1
        rw [show whr y n (q + 1) = whr y n q from (rnT_go hqn hb).symm] at r
        exact kk I' ((rfr_s (by omega)).trans f) r
      have T3 := (rfr_s (I := I1) (j := 7) (v := nI q) (by omega)).tp T1
      -- a token begins here
      have tok : isBl (y q) = false → CI m_Tape_at [vr 17 4, vi (nI q)] true (sI I1 139 7 (nI q)) L (fun v_1 b_1 I_1 L_1 => ((¬ v_1 = (-1 : Int32) → CI m_Reader_isLetter [vi v_1] b_1 I_1 L_1 (fun v_2 b_2 I_2 L_2 => ((v_2 = 0 → CI m_Reader_isDigit [vi v_1] b_2 I_2 L_2 (fun v_3 b_3 I_3 L_3 => ((v_3 = 0 → ((¬ v_1 = (59 : Int32) → K b_3 (sI (sI I_3 139 6 (4 : Int32)) 139 5 ((I_3 139 5) + (1 : Int32))) L_3) ∧ (¬ (¬ v_1 = (59 : Int32)) → K b_3 (sI (sI I_3 139 6 (3 : Int32)) 139 5 ((I_3 139 5) + (1 : Int32))) L_3))) ∧ (¬ v_3 = 0 → CV m_Reader_readNumber [vr 13 139] b_3 I_3 L_3 (fun b_4 I_4 L_4 => K b_4 I_4 L_4))))) ∧ (¬ v_2 = 0 → SW m_Reader_next 104 [vr 13 139, un] [] b_2 (sI I_2 139 6 (1 : Int32)) L_2 (kV K))))) ∧ (¬ (¬ v_1 = (-1 : Int32)) → K b_1 (sI I_1 139 6 (0 : Int32)) L_1))) := fun hb => by
        have ew : whr y n q = q := rnT_stop hb
        rw [ew] at kk
        refine c_at T3 (by omega) (fun _ => ⟨fun _ => c_isLetter (by omega) ?_, fun z => absurd (n_m1ne (by omega)) z⟩) (fun z => absurd z (by omega))
        cases hl : isLt (y q) with
        | true =>
          refine ⟨fun z => absurd z (by decide), fun _ => ?_⟩
          refine letters q hqn hl (rnT isLt y n q - q) q (by have := rnT_le (f := isLt) (y := y) (n := n) (p := q) (by omega); omega) (Nat.le_refl _) _ ((rfr_s (by omega)).tp T3) ?_ (sI_at _ _ _ _) ?_ (fun I' f r => kk I' (((rfr_s (by omega)).trans (rfr_s (by omega))).trans f) r)
          · rw [sI_j (by omega), sI_j (by omega)]
            exact q5
          · rw [sI_j (by omega), sI_at]
        | false =>
          refine ⟨fun _ => c_isDigit (by omega) ?_, fun z => absurd rfl z⟩
          cases hd : isDg (y q) with
          | true =>
            refine ⟨fun z => absurd z (by decide), fun _ => v_Reader_readNumber_0 ?_⟩
            refine c_digits (K := K) hqn hd hl (rnT isDg y n q - q) q (by have := rnT_le (f := isDg) (y := y) (n := n) (p := q) (by omega); omega) (Nat.le_refl _) _ ((rfr_s (by omega)).tp T3) ?_ ?_ (fun _ => sI_at _ _ _ _) (fun z => by omega) (fun z => by omega) ⟨0, by omega, sI_at _ _ _ _⟩ (fun I' f r => kk I' (((rfr_s (by omega)).trans (rfr_s (by omega))).trans f) r)
            · rw [sI_j (by omega), sI_j (by omega)]
              exact q5
            · rw [sI_j (by omega), sI_at]
          | false =>
            refine ⟨fun _ => ?_, fun z => absurd rfl z⟩
            have en : nxt y n q = q + 1 := by
              unfold nxt
              rw [if_neg (by omega), if_neg (by rw [hl]; exact Bool.false_ne_true), if_neg (by rw [hd]; exact Bool.false_ne_true)]
            have kd : kin y n q = if y q = 59 then 3 else 4 := by
              unfold kin
              rw [if_neg (by omega), if_neg (by rw [hl]; exact Bool.false_ne_true), if_neg (by rw [hd]; exact Bool.false_ne_true)]
            have e57 : sI I1 139 7 (nI q) 139 5 = nI q := by rw [sI_j (by omega)]; exact q5
            rw [e57, show nI q + (1 : Int32) = nI (q + 1) from n_add q 1, show (59 : Int32) = nI 59 from rfl, n_eq (by omega) (by omega)]
            have ek : ∀ v : Int32, v = nI (kin y n q) → ¬ kin y n q = 2 → K true (sI (sI (sI I1 139 7 (nI q)) 139 6 v) 139 5 (nI (q + 1))) L := fun v hv h2 => kk _ (((rfr_s (by omega)).trans (rfr_s (by omega))).trans (rfr_s (by omega))) ⟨by rw [sI_at, en], by rw [sI_j (by omega), sI_at, hv], by rw [sI_j (by omega), sI_j (by omega), sI_at], fun z => absurd z h2⟩
            refine ⟨fun z => ?_, fun z => ?_⟩
            · rw [if_neg z] at kd
              exact ek 4 (by rw [kd]; rfl) (by rw [kd]; decide)
            · rw [if_pos (Decidable.not_not.mp z)] at kd
              exact ek 3 (by rw [kd]; rfl) (by rw [kd]; decide)
      have no : ¬ I1 4 1 ≤ I1 139 5 := by
        rw [q5, T1.1.1, n_le (by omega) (by omega)]
        omega
      have bl : ∀ c : Nat, y q = c → (c = 10 ∨ c = 32) → isBl (y q) = true := fun c h1 h2 => by
        rw [h1]
        rcases h2 with rfl | rfl <;> rfl
      have nb : ¬ y q = 32 → ¬ y q = 10 → isBl (y q) = false := fun h1 h2 => by
        unfold isBl
        rw [decide_eq_false h1, decide_eq_false h2]
        rfl
      have body : CI m_Tape_at [vr 17 4, vi (nI q)] true I1 L (fun v_5 b_5 I_5 L_5 => ((v_5 = (32 : Int32) → SW m_Reader_next 0 [vr 13 139, un] [] b_5 (sI I_5 139 5 ((I_5 139 5) + (1 : Int32))) L_5 (kV K)) ∧ (¬ v_5 = (32 : Int32) → (b_5 = true ∧ CI m_Tape_at [vr 17 4, vi (I_5 139 5)] b_5 I_5 L_5 (fun v_6 b_6 I_6 L_6 => ((¬ v_6 = (10 : Int32) → (b_6 = true ∧ CI m_Tape_at [vr 17 4, vi (I_6 139 5)] b_6 (sI I_6 139 7 (I_6 139 5)) L_6 (fun v_1 b_1 I_1 L_1 => ((¬ v_1 = (-1 : Int32) → CI m_Reader_isLetter [vi v_1] b_1 I_1 L_1 (fun v_2 b_2 I_2 L_2 => ((v_2 = 0 → CI m_Reader_isDigit [vi v_1] b_2 I_2 L_2 (fun v_3 b_3 I_3 L_3 => ((v_3 = 0 → ((¬ v_1 = (59 : Int32) → K b_3 (sI (sI I_3 139 6 (4 : Int32)) 139 5 ((I_3 139 5) + (1 : Int32))) L_3) ∧ (¬ (¬ v_1 = (59 : Int32)) → K b_3 (sI (sI I_3 139 6 (3 : Int32)) 139 5 ((I_3 139 5) + (1 : Int32))) L_3))) ∧ (¬ v_3 = 0 → CV m_Reader_readNumber [vr 13 139] b_3 I_3 L_3 (fun b_4 I_4 L_4 => K b_4 I_4 L_4))))) ∧ (¬ v_2 = 0 → SW m_Reader_next 104 [vr 13 139, un] [] b_2 (sI I_2 139 6 (1 : Int32)) L_2 (kV K))))) ∧ (¬ (¬ v_1 = (-1 : Int32)) → K b_1 (sI I_1 139 6 (0 : Int32)) L_1))))) ∧ (¬ (¬ v_6 = (10 : Int32)) → SW m_Reader_next 0 [vr 13 139, un] [] b_6 (sI I_6 139 5 ((I_6 139 5) + (1 : Int32))) L_6 (kV K))))))) ) := by
        refine c_at T1 (by omega) (fun _ => ?_) (fun z => absurd z (by omega))
        rw [q5, show nI q + (1 : Int32) = nI (q + 1) from n_add q 1, show (32 : Int32) = nI 32 from rfl, n_eq (by omega) (by omega)]
        refine ⟨fun z => blank (bl 32 z (Or.inr rfl)), fun z => ⟨rfl, c_at T1 (by omega) (fun _ => ?_) (fun z => absurd z (by omega))⟩⟩
        rw [q5, show nI q + (1 : Int32) = nI (q + 1) from n_add q 1, show (10 : Int32) = nI 10 from rfl, n_eq (by omega) (by omega)]
        exact ⟨fun z2 => ⟨rfl, tok (nb z z2)⟩, fun z2 => blank (bl 10 (Decidable.not_not.mp z2) (Or.inl rfl))⟩
      rw [← q5] at body
      exact ⟨v_Reader_next_h0 ⟨rfl, fun z => absurd z no, fun _ => ⟨rfl, body⟩⟩, v_Reader_next_0 ⟨rfl, fun z => absurd z no, fun _ => ⟨rfl, body⟩⟩⟩
  exact (loop (n - p) p (by omega) I T e5 hK).2
