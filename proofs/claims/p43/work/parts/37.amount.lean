/-! amounts, open ties, the last day, in the class's cells -/
theorem c_amount {t : Tel} {x : Wi} {m0 s d p : Nat} {b : Bool} {I : MI} {L : ML} {K : Int32 → Bool → MI → ML → Prop} (ht : t.ok) (hx : x.ok) (G : givP m0 t I L) (X : wiP x I L) (hs : s ≤ 1) (hd : d ≤ 200) (hp : p < 16) (hK : K (nI (amW t x s d p)) b I L) : CI m_Given_amount [vr 12 161, vi (nI d), vi (nI p), vi (nI s)] b I L K := by
  obtain ⟨w1, w2, w3, w4, -, -, -, -⟩ := X
  obtain ⟨x1, x2, x3⟩ := hx
  obtain ⟨-, g2, -⟩ := G
  have w2 := w2 p (by omega)
  have w3 := w3 p (by omega)
  have hb := fun h => amt_big (t := t) ht (p := p) hs (d := d) h
  have am := Tel.amt_le (t := t) ht.1 s d p
  have hw4 : x.dn p = true → I 161 9 = nI x.df ∧ I 161 10 = nI x.dt := fun h => w4 (anyN_iff.mpr ⟨p, by omega, h⟩)
  have e162 : d < 100 → I 162 (d * 16 + p) = nI (t.amt 0 d p) ∧ I 163 (d * 16 + p) = nI (t.amt 1 d p) := fun h => g2 d h p hp
  unfold amW at hK
  refine v_Given_amount_0 ?_
  rcases (by omega : s = 0 ∨ s = 1) with rfl | rfl
  · have c0 : ¬ ((0 = 1 ∧ x.df ≤ d ∧ d ≤ x.dt) ∧ x.dn p = true) := by omega
    rw [if_neg c0, Nat.add_zero] at hK
    cases hal : x.al with
    | true =>
      rw [hal, Bool.true_and] at w2
      rw [hal] at w1
      have w1 : I 161 6 = nI 1 := w1
      rw [if_pos hal] at hK
      by_cases d0 : d = 0
      · cases hbg : x.bg p with
        | true =>
          rw [if_pos ⟨⟨rfl, d0⟩, hbg⟩] at hK
          rw [hbg] at w2
          subst d0
          simp (disch := first | omega | assumption) only [n_lit, n_gLt, n_gLe, n_gEq, n_gEq2, n_gLe2, n_gLt2, n_m1, n_add, n_mul, n_lt, n_le, n_eq, n_cl, n_in, n_rem, n_mlt, n_mle, n_ltm, n_lem, n_eqm, n_meq, n_bit, n_shl, n_b0, n_b1, n_sub, n_inT, nT, nF, lT, lF, eT, eF, not_false_eq_true, not_true_eq_false, sI_at, sI_c, sI_j, aI_at, aI_c, sL_at, sL_c, sL_j, true_and, and_true, not_true_eq_false, not_false_eq_true, forall_const, true_implies, false_implies, implies_true, if_true, if_false, ite_true, ite_false, Bool.not_eq_true, Bool.not_eq_false, Bool.true_eq_false, Bool.false_eq_true, false_and, and_false, or_true, true_or, false_or, or_false, w1, n_and2, w2]
          exact hK
        | false =>
          rw [if_neg (by simp [hbg])] at hK
          rw [hbg] at w2
          subst d0
          simp (disch := first | omega | assumption) only [n_lit, n_gLt, n_gLe, n_gEq, n_gEq2, n_gLe2, n_gLt2, n_m1, n_add, n_mul, n_lt, n_le, n_eq, n_cl, n_in, n_rem, n_mlt, n_mle, n_ltm, n_lem, n_eqm, n_meq, n_bit, n_shl, n_b0, n_b1, n_sub, n_inT, nT, nF, lT, lF, eT, eF, not_false_eq_true, not_true_eq_false, sI_at, sI_c, sI_j, aI_at, aI_c, sL_at, sL_c, sL_j, true_and, and_true, not_true_eq_false, not_false_eq_true, forall_const, true_implies, false_implies, implies_true, if_true, if_false, ite_true, ite_false, Bool.not_eq_true, Bool.not_eq_false, Bool.true_eq_false, Bool.false_eq_true, false_and, and_false, or_true, true_or, false_or, or_false, w1, n_and2, w2]
          exact hK
      · rw [if_neg (by omega)] at hK
        simp (disch := first | omega | assumption) only [n_lit, n_gLt, n_gLe, n_gEq, n_gEq2, n_gLe2, n_gLt2, n_m1, n_add, n_mul, n_lt, n_le, n_eq, n_cl, n_in, n_rem, n_mlt, n_mle, n_ltm, n_lem, n_eqm, n_meq, n_bit, n_shl, n_b0, n_b1, n_sub, n_inT, nT, nF, lT, lF, eT, eF, not_false_eq_true, not_true_eq_false, sI_at, sI_c, sI_j, aI_at, aI_c, sL_at, sL_c, sL_j, true_and, and_true, not_true_eq_false, not_false_eq_true, forall_const, true_implies, false_implies, implies_true, if_true, if_false, ite_true, ite_false, Bool.not_eq_true, Bool.not_eq_false, Bool.true_eq_false, Bool.false_eq_true, false_and, and_false, or_true, true_or, false_or, or_false, w1]
        exact hK
    | false =>
      rw [hal] at w1
      have w1 : I 161 6 = nI 0 := w1
      rw [if_neg (by simp [hal])] at hK
      by_cases d1 : d < 100
      · obtain ⟨q1, q2⟩ := e162 d1
        simp (disch := first | omega | assumption) only [n_lit, n_gLt, n_gLe, n_gEq, n_gEq2, n_gLe2, n_gLt2, n_m1, n_add, n_mul, n_lt, n_le, n_eq, n_cl, n_in, n_rem, n_mlt, n_mle, n_ltm, n_lem, n_eqm, n_meq, n_bit, n_shl, n_b0, n_b1, n_sub, n_inT, nT, nF, lT, lF, eT, eF, not_false_eq_true, not_true_eq_false, sI_at, sI_c, sI_j, aI_at, aI_c, sL_at, sL_c, sL_j, true_and, and_true, not_true_eq_false, not_false_eq_true, forall_const, true_implies, false_implies, implies_true, if_true, if_false, ite_true, ite_false, Bool.not_eq_true, Bool.not_eq_false, Bool.true_eq_false, Bool.false_eq_true, false_and, and_false, or_true, true_or, false_or, or_false, w1, q1]
        exact hK
      · rw [hb (by omega)] at hK
        simp (disch := first | omega | assumption) only [n_lit, n_gLt, n_gLe, n_gEq, n_gEq2, n_gLe2, n_gLt2, n_m1, n_add, n_mul, n_lt, n_le, n_eq, n_cl, n_in, n_rem, n_mlt, n_mle, n_ltm, n_lem, n_eqm, n_meq, n_bit, n_shl, n_b0, n_b1, n_sub, n_inT, nT, nF, lT, lF, eT, eF, not_false_eq_true, not_true_eq_false, sI_at, sI_c, sI_j, aI_at, aI_c, sL_at, sL_c, sL_j, true_and, and_true, not_true_eq_false, not_false_eq_true, forall_const, true_implies, false_implies, implies_true, if_true, if_false, ite_true, ite_false, Bool.not_eq_true, Bool.not_eq_false, Bool.true_eq_false, Bool.false_eq_true, false_and, and_false, or_true, true_or, false_or, or_false, w1]
        exact hK
  · have c0 : ¬ ((1 = 0 ∧ d = 0) ∧ x.bg p = true) := by omega
    rw [if_neg c0] at hK
    have hz : ∃ z, z ≤ 270 ∧ (if x.al = true then 0 else t.amt 1 d p) = z := ⟨_, by split <;> omega, rfl⟩
    obtain ⟨z, hz1, hz2⟩ := hz
    rw [hz2] at hK
    have fin : ∀ K' : Int32 → Bool → MI → ML → Prop, K' (nI (z + if (1 = 1 ∧ x.df ≤ d ∧ d ≤ x.dt) ∧ x.dn p = true then 9 else 0)) b I L → ((nI d < I 161 9 → K' (nI z) b I L) ∧ (¬ nI d < I 161 9 → ((I 161 10 < nI d → K' (nI z) b I L) ∧ (¬ I 161 10 < nI d → ((bt (I 161 8) p = false → K' (nI z) b I L) ∧ (¬ bt (I 161 8) p = false → K' (nI (z + 9)) b I L)))))) := by
      intro K' k
      rw [w3]
      cases hdn : x.dn p with
      | true =>
        obtain ⟨q1, q2⟩ := hw4 hdn
        rw [q1, q2, n_lt (by omega) (by omega), n_lt (by omega) (by omega)]
        refine ⟨fun h => ?_, fun h => ⟨fun h2 => ?_, fun h2 => ⟨fun h3 => (by cases h3), fun _ => ?_⟩⟩⟩
        · rw [if_neg (by omega)] at k; exact k
        · rw [if_neg (by omega)] at k; exact k
        · rw [if_pos ⟨⟨rfl, by omega, by omega⟩, hdn⟩] at k; exact k
      | false =>
        rw [if_neg (by simp [hdn])] at k
        exact ⟨fun _ => k, fun _ => ⟨fun _ => k, fun _ => ⟨fun _ => k, fun h => absurd rfl h⟩⟩⟩
    have fin := fin K hK
    cases hal : x.al with
    | true =>
      rw [hal] at w1
      have w1 : I 161 6 = nI 1 := w1
      rw [if_pos hal] at hz2
      subst hz2
      rw [Nat.zero_add] at fin
      simp (disch := first | omega | assumption) only [n_lit, n_gLt, n_gLe, n_gEq, n_gEq2, n_gLe2, n_gLt2, n_m1, n_add, n_mul, n_lt, n_le, n_eq, n_cl, n_in, n_rem, n_mlt, n_mle, n_ltm, n_lem, n_eqm, n_meq, n_bit, n_shl, n_b0, n_b1, n_sub, n_inT, nT, nF, lT, lF, eT, eF, not_false_eq_true, not_true_eq_false, sI_at, sI_c, sI_j, aI_at, aI_c, sL_at, sL_c, sL_j, true_and, and_true, not_true_eq_false, not_false_eq_true, forall_const, true_implies, false_implies, implies_true, if_true, if_false, ite_true, ite_false, Bool.not_eq_true, Bool.not_eq_false, Bool.true_eq_false, Bool.false_eq_true, false_and, and_false, or_true, true_or, false_or, or_false, w1, n_and2] at fin
      simp (disch := first | omega | assumption) only [n_lit, n_gLt, n_gLe, n_gEq, n_gEq2, n_gLe2, n_gLt2, n_m1, n_add, n_mul, n_lt, n_le, n_eq, n_cl, n_in, n_rem, n_mlt, n_mle, n_ltm, n_lem, n_eqm, n_meq, n_bit, n_shl, n_b0, n_b1, n_sub, n_inT, nT, nF, lT, lF, eT, eF, not_false_eq_true, not_true_eq_false, sI_at, sI_c, sI_j, aI_at, aI_c, sL_at, sL_c, sL_j, true_and, and_true, not_true_eq_false, not_false_eq_true, forall_const, true_implies, false_implies, implies_true, if_true, if_false, ite_true, ite_false, Bool.not_eq_true, Bool.not_eq_false, Bool.true_eq_false, Bool.false_eq_true, false_and, and_false, or_true, true_or, false_or, or_false, w1, n_and2, Nat.zero_add]
      exact fin
    | false =>
      rw [hal] at w1
      have w1 : I 161 6 = nI 0 := w1
      rw [if_neg (by simp [hal])] at hz2
      by_cases d1 : d < 100
      · obtain ⟨q1, q2⟩ := e162 d1
        rw [hz2] at q2
        simp (disch := first | omega | assumption) only [n_lit, n_gLt, n_gLe, n_gEq, n_gEq2, n_gLe2, n_gLt2, n_m1, n_add, n_mul, n_lt, n_le, n_eq, n_cl, n_in, n_rem, n_mlt, n_mle, n_ltm, n_lem, n_eqm, n_meq, n_bit, n_shl, n_b0, n_b1, n_sub, n_inT, nT, nF, lT, lF, eT, eF, not_false_eq_true, not_true_eq_false, sI_at, sI_c, sI_j, aI_at, aI_c, sL_at, sL_c, sL_j, true_and, and_true, not_true_eq_false, not_false_eq_true, forall_const, true_implies, false_implies, implies_true, if_true, if_false, ite_true, ite_false, Bool.not_eq_true, Bool.not_eq_false, Bool.true_eq_false, Bool.false_eq_true, false_and, and_false, or_true, true_or, false_or, or_false] at fin
        simp (disch := first | omega | assumption) only [n_lit, n_gLt, n_gLe, n_gEq, n_gEq2, n_gLe2, n_gLt2, n_m1, n_add, n_mul, n_lt, n_le, n_eq, n_cl, n_in, n_rem, n_mlt, n_mle, n_ltm, n_lem, n_eqm, n_meq, n_bit, n_shl, n_b0, n_b1, n_sub, n_inT, nT, nF, lT, lF, eT, eF, not_false_eq_true, not_true_eq_false, sI_at, sI_c, sI_j, aI_at, aI_c, sL_at, sL_c, sL_j, true_and, and_true, not_true_eq_false, not_false_eq_true, forall_const, true_implies, false_implies, implies_true, if_true, if_false, ite_true, ite_false, Bool.not_eq_true, Bool.not_eq_false, Bool.true_eq_false, Bool.false_eq_true, false_and, and_false, or_true, true_or, false_or, or_false, w1, n_and2, q2]
        exact fin
      · rw [hb (by omega)] at hz2
        subst hz2
        simp (disch := first | omega | assumption) only [n_lit, n_gLt, n_gLe, n_gEq, n_gEq2, n_gLe2, n_gLt2, n_m1, n_add, n_mul, n_lt, n_le, n_eq, n_cl, n_in, n_rem, n_mlt, n_mle, n_ltm, n_lem, n_eqm, n_meq, n_bit, n_shl, n_b0, n_b1, n_sub, n_inT, nT, nF, lT, lF, eT, eF, not_false_eq_true, not_true_eq_false, sI_at, sI_c, sI_j, aI_at, aI_c, sL_at, sL_c, sL_j, true_and, and_true, not_true_eq_false, not_false_eq_true, forall_const, true_implies, false_implies, implies_true, if_true, if_false, ite_true, ite_false, Bool.not_eq_true, Bool.not_eq_false, Bool.true_eq_false, Bool.false_eq_true, false_and, and_false, or_true, true_or, false_or, or_false] at fin
        simp (disch := first | omega | assumption) only [n_lit, n_gLt, n_gLe, n_gEq, n_gEq2, n_gLe2, n_gLt2, n_m1, n_add, n_mul, n_lt, n_le, n_eq, n_cl, n_in, n_rem, n_mlt, n_mle, n_ltm, n_lem, n_eqm, n_meq, n_bit, n_shl, n_b0, n_b1, n_sub, n_inT, nT, nF, lT, lF, eT, eF, not_false_eq_true, not_true_eq_false, sI_at, sI_c, sI_j, aI_at, aI_c, sL_at, sL_c, sL_j, true_and, and_true, not_true_eq_false, not_false_eq_true, forall_const, true_implies, false_implies, implies_true, if_true, if_false, ite_true, ite_false, Bool.not_eq_true, Bool.not_eq_false, Bool.true_eq_false, Bool.false_eq_true, false_and, and_false, or_true, true_or, false_or, or_false, w1, n_and2]
        exact fin
theorem c_openOn {t : Tel} {x : Wi} {m0 d : Nat} {b : Bool} {I : MI} {L : ML} {K : Int64 → Bool → MI → ML → Prop} (ht : t.ok) (hx : x.ok) (G : givP m0 t I L) (X : wiP x I L) (hd : d ≤ 200) (hK : ∀ v : Int64, (∀ k, k < 64 → bl v k = opW m0 t x d k) → K v b I L) : CL m_Given_openOn [vr 12 161, vi (nI d)] b I L K := by
  obtain ⟨-, -, -, -, -, w6, w7, w8⟩ := X
  obtain ⟨x1, x2, x3⟩ := hx
  obtain ⟨-, -, g3⟩ := G
  have hbar : ∀ k, k < 64 → (¬ nI d < I 161 14 → (x.ba k && decide (x.bf ≤ d)) = x.ba k) ∧ (nI d < I 161 14 → (x.ba k && decide (x.bf ≤ d)) = false) := by
    intro k hk
    cases h : x.ba k with
    | false => exact ⟨fun _ => rfl, fun _ => rfl⟩
    | true =>
      rw [w8 (anyN_iff.mpr ⟨k, hk, h⟩), n_lt (by omega) (by omega), Bool.true_and]
      exact ⟨fun q => decide_eq_true (by omega), fun q => decide_eq_false (by omega)⟩
  refine v_Given_openOn_0 ?_
  by_cases c : d < 100
  · simp (disch := first | omega | assumption) only [n_lit, n_gLt, n_gLe, n_gEq, n_gEq2, n_gLe2, n_gLt2, n_m1, n_add, n_mul, n_lt, n_le, n_eq, n_cl, n_in, n_rem, n_mlt, n_mle, n_ltm, n_lem, n_eqm, n_meq, n_bit, n_shl, n_b0, n_b1, n_sub, n_inT, nT, nF, lT, lF, eT, eF, not_false_eq_true, not_true_eq_false, sI_at, sI_c, sI_j, aI_at, aI_c, sL_at, sL_c, sL_j, true_and, and_true, not_true_eq_false, not_false_eq_true, forall_const, true_implies, false_implies, implies_true, if_true, if_false, ite_true, ite_false, Bool.not_eq_true, Bool.not_eq_false, Bool.true_eq_false, Bool.false_eq_true, false_and, and_false, or_true, true_or, false_or, or_false]
    refine ⟨fun q => hK _ (fun k hk => ?_), fun q => hK _ (fun k hk => ?_)⟩
    · unfold opW
      rw [l_xor, l_or, l_m1 k hk, w6 k hk, g3 d c k hk, (hbar k hk).2 q, Bool.or_false, Bool.xor_true]
    · unfold opW
      rw [l_xor, l_or, l_or, l_m1 k hk, w6 k hk, g3 d c k hk, w7 k hk, (hbar k hk).1 q, Bool.xor_true]
  · simp (disch := first | omega | assumption) only [n_lit, n_gLt, n_gLe, n_gEq, n_gEq2, n_gLe2, n_gLt2, n_m1, n_add, n_mul, n_lt, n_le, n_eq, n_cl, n_in, n_rem, n_mlt, n_mle, n_ltm, n_lem, n_eqm, n_meq, n_bit, n_shl, n_b0, n_b1, n_sub, n_inT, nT, nF, lT, lF, eT, eF, not_false_eq_true, not_true_eq_false, sI_at, sI_c, sI_j, aI_at, aI_c, sL_at, sL_c, sL_j, true_and, and_true, not_true_eq_false, not_false_eq_true, forall_const, true_implies, false_implies, implies_true, if_true, if_false, ite_true, ite_false, Bool.not_eq_true, Bool.not_eq_false, Bool.true_eq_false, Bool.false_eq_true, false_and, and_false, or_true, true_or, false_or, or_false]
    refine ⟨fun q => hK _ (fun k hk => ?_), fun q => hK _ (fun k hk => ?_)⟩
    · unfold opW
      rw [l_xor, l_m1 k hk, w6 k hk, wall_big ht (by omega), (hbar k hk).2 q, Bool.false_and, Bool.or_false, Bool.or_false, Bool.xor_true]
    · unfold opW
      rw [l_xor, l_or, l_m1 k hk, w6 k hk, wall_big ht (by omega), w7 k hk, (hbar k hk).1 q, Bool.false_and, Bool.or_false, Bool.xor_true]
theorem l_cmp0 (x : Int64) : (lg_cmp x 0 = nI 0) = (x = 0) := by
  unfold lg_cmp
  apply propext
  by_cases h : x > 0
  · rw [if_pos h]
    constructor
    · intro q; exact absurd q (by decide)
    · rintro rfl; exact absurd h (by decide)
  · rw [if_neg h]
    by_cases h2 : x = 0
    · rw [if_pos h2]; exact ⟨fun _ => h2, fun _ => rfl⟩
    · rw [if_neg h2]
      exact ⟨fun q => absurd q (by decide), fun q => absurd q h2⟩
theorem l_eq0 {x : Int64} {f : Nat → Bool} (h : ∀ k, k < 64 → bl x k = f k) : (x = 0) = (anyN 64 f = false) := by
  apply propext
  rw [anyN_no]
  constructor
  · rintro rfl k hk
    rw [← h k hk, l_0]
  · intro q
    apply l_ext
    intro k hk
    rw [h k hk, q k hk, l_0]
theorem b_eq0 {x : Int32} {f : Nat → Bool} (h : ∀ k, k < 32 → bt x k = f k) : (x = nI 0) = (anyN 32 f = false) := by
  apply propext
  rw [anyN_no]
  constructor
  · rintro rfl k hk
    rw [← h k hk, b_0]
  · intro q
    apply b_ext
    intro k hk
    rw [h k hk, q k hk, b_0]
theorem laW_le {t : Tel} {x : Wi} (ht : t.ok) (hx : x.ok) : laW t x ≤ 200 := by
  have h1 := Tel.ok_la1 ht
  have h2 := Tel.ok_la2 ht
  obtain ⟨x1, x2, x3⟩ := hx
  unfold laW
  dsimp only
  repeat' split
  all_goals omega
theorem c_lastDay {t : Tel} {x : Wi} {m0 : Nat} {b : Bool} {I : MI} {L : ML} {K : Int32 → Bool → MI → ML → Prop} (ht : t.ok) (hx : x.ok) (G : givP m0 t I L) (X : wiP x I L) (hK : K (nI (laW t x)) b I L) : CI m_Given_lastDay [vr 12 161] b I L K := by
  obtain ⟨w1, -, w3, w4, -, -, w7, w8⟩ := X
  obtain ⟨x1, x2, x3⟩ := hx
  obtain ⟨⟨-, g1, g2⟩, -, -⟩ := G
  have h1 := Tel.ok_la1 ht
  have h2 := Tel.ok_la2 ht
  have e8 := b_eq0 w3
  have e13 := l_eq0 w7
  unfold laW at hK
  refine v_Given_lastDay_0 ?_
  cases hal : x.al with
  | true =>
    rw [hal] at w1
    have w1 : I 161 6 = nI 1 := w1
    simp only [hal, if_true] at hK
    cases hdn : anyN 32 x.dn with
    | true =>
      obtain ⟨q1, q2⟩ := w4 hdn
      simp only [hdn, if_true] at hK
      cases hba : anyN 64 x.ba with
      | true =>
        have q3 := w8 hba
        simp only [hba, if_true] at hK
        simp (disch := first | omega | assumption) only [n_lit, n_gLt, n_gLe, n_gEq, n_gEq2, n_gLe2, n_gLt2, n_m1, n_add, n_mul, n_lt, n_le, n_eq, n_cl, n_in, n_rem, n_mlt, n_mle, n_ltm, n_lem, n_eqm, n_meq, n_bit, n_shl, n_b0, n_b1, n_sub, n_inT, nT, nF, lT, lF, eT, eF, not_false_eq_true, not_true_eq_false, sI_at, sI_c, sI_j, aI_at, aI_c, sL_at, sL_c, sL_j, true_and, and_true, not_true_eq_false, not_false_eq_true, forall_const, true_implies, false_implies, implies_true, if_true, if_false, ite_true, ite_false, Bool.not_eq_true, Bool.not_eq_false, Bool.true_eq_false, Bool.false_eq_true, false_and, and_false, or_true, true_or, false_or, or_false, w1, e8, hdn, g2, q2, l_cmp0, e13, hba, q3]
        by_cases c1 : t.la2 < x.dt
        · by_cases c2 : x.dt < x.bf <;> simp only [c1, c2, if_true, if_false] at hK ⊢ <;> simp (disch := first | omega | assumption) only [n_lit, n_gLt, n_gLe, n_gEq, n_gEq2, n_gLe2, n_gLt2, n_m1, n_add, n_mul, n_lt, n_le, n_eq, n_cl, n_in, n_rem, n_mlt, n_mle, n_ltm, n_lem, n_eqm, n_meq, n_bit, n_shl, n_b0, n_b1, n_sub, n_inT, nT, nF, lT, lF, eT, eF, not_false_eq_true, not_true_eq_false, sI_at, sI_c, sI_j, aI_at, aI_c, sL_at, sL_c, sL_j, true_and, and_true, not_true_eq_false, not_false_eq_true, forall_const, true_implies, false_implies, implies_true, if_true, if_false, ite_true, ite_false, Bool.not_eq_true, Bool.not_eq_false, Bool.true_eq_false, Bool.false_eq_true, false_and, and_false, or_true, true_or, false_or, or_false] <;> first | exact hK | (simp only [c1, c2, if_true, if_false]; exact hK)
        · by_cases c2 : t.la2 < x.bf <;> simp only [c1, c2, if_true, if_false] at hK ⊢ <;> simp (disch := first | omega | assumption) only [n_lit, n_gLt, n_gLe, n_gEq, n_gEq2, n_gLe2, n_gLt2, n_m1, n_add, n_mul, n_lt, n_le, n_eq, n_cl, n_in, n_rem, n_mlt, n_mle, n_ltm, n_lem, n_eqm, n_meq, n_bit, n_shl, n_b0, n_b1, n_sub, n_inT, nT, nF, lT, lF, eT, eF, not_false_eq_true, not_true_eq_false, sI_at, sI_c, sI_j, aI_at, aI_c, sL_at, sL_c, sL_j, true_and, and_true, not_true_eq_false, not_false_eq_true, forall_const, true_implies, false_implies, implies_true, if_true, if_false, ite_true, ite_false, Bool.not_eq_true, Bool.not_eq_false, Bool.true_eq_false, Bool.false_eq_true, false_and, and_false, or_true, true_or, false_or, or_false] <;> first | exact hK | (simp only [c1, c2, if_true, if_false]; exact hK)
      | false =>
        simp only [hba, Bool.false_eq_true, if_false] at hK
        simp (disch := first | omega | assumption) only [n_lit, n_gLt, n_gLe, n_gEq, n_gEq2, n_gLe2, n_gLt2, n_m1, n_add, n_mul, n_lt, n_le, n_eq, n_cl, n_in, n_rem, n_mlt, n_mle, n_ltm, n_lem, n_eqm, n_meq, n_bit, n_shl, n_b0, n_b1, n_sub, n_inT, nT, nF, lT, lF, eT, eF, not_false_eq_true, not_true_eq_false, sI_at, sI_c, sI_j, aI_at, aI_c, sL_at, sL_c, sL_j, true_and, and_true, not_true_eq_false, not_false_eq_true, forall_const, true_implies, false_implies, implies_true, if_true, if_false, ite_true, ite_false, Bool.not_eq_true, Bool.not_eq_false, Bool.true_eq_false, Bool.false_eq_true, false_and, and_false, or_true, true_or, false_or, or_false, w1, e8, hdn, g2, q2, l_cmp0, e13, hba]
        by_cases c1 : t.la2 < x.dt <;> simp only [c1, if_true, if_false] at hK ⊢ <;> exact hK
    | false =>
      simp only [hdn, Bool.false_eq_true, if_false] at hK
      cases hba : anyN 64 x.ba with
      | true =>
        have q3 := w8 hba
        simp only [hba, if_true] at hK
        simp (disch := first | omega | assumption) only [n_lit, n_gLt, n_gLe, n_gEq, n_gEq2, n_gLe2, n_gLt2, n_m1, n_add, n_mul, n_lt, n_le, n_eq, n_cl, n_in, n_rem, n_mlt, n_mle, n_ltm, n_lem, n_eqm, n_meq, n_bit, n_shl, n_b0, n_b1, n_sub, n_inT, nT, nF, lT, lF, eT, eF, not_false_eq_true, not_true_eq_false, sI_at, sI_c, sI_j, aI_at, aI_c, sL_at, sL_c, sL_j, true_and, and_true, not_true_eq_false, not_false_eq_true, forall_const, true_implies, false_implies, implies_true, if_true, if_false, ite_true, ite_false, Bool.not_eq_true, Bool.not_eq_false, Bool.true_eq_false, Bool.false_eq_true, false_and, and_false, or_true, true_or, false_or, or_false, w1, e8, hdn, g2, l_cmp0, e13, hba, q3]
        by_cases c1 : t.la2 < x.bf <;> simp only [c1, if_true, if_false] at hK ⊢ <;> exact hK
      | false =>
        simp only [hba, Bool.false_eq_true, if_false] at hK
        simp (disch := first | omega | assumption) only [n_lit, n_gLt, n_gLe, n_gEq, n_gEq2, n_gLe2, n_gLt2, n_m1, n_add, n_mul, n_lt, n_le, n_eq, n_cl, n_in, n_rem, n_mlt, n_mle, n_ltm, n_lem, n_eqm, n_meq, n_bit, n_shl, n_b0, n_b1, n_sub, n_inT, nT, nF, lT, lF, eT, eF, not_false_eq_true, not_true_eq_false, sI_at, sI_c, sI_j, aI_at, aI_c, sL_at, sL_c, sL_j, true_and, and_true, not_true_eq_false, not_false_eq_true, forall_const, true_implies, false_implies, implies_true, if_true, if_false, ite_true, ite_false, Bool.not_eq_true, Bool.not_eq_false, Bool.true_eq_false, Bool.false_eq_true, false_and, and_false, or_true, true_or, false_or, or_false, w1, e8, hdn, g2, l_cmp0, e13, hba]
        exact hK
  | false =>
    rw [hal] at w1
    have w1 : I 161 6 = nI 0 := w1
    simp only [hal, Bool.false_eq_true, if_false] at hK
    cases hdn : anyN 32 x.dn with
    | true =>
      obtain ⟨q1, q2⟩ := w4 hdn
      simp only [hdn, if_true] at hK
      cases hba : anyN 64 x.ba with
      | true =>
        have q3 := w8 hba
        simp only [hba, if_true] at hK
        simp (disch := first | omega | assumption) only [n_lit, n_gLt, n_gLe, n_gEq, n_gEq2, n_gLe2, n_gLt2, n_m1, n_add, n_mul, n_lt, n_le, n_eq, n_cl, n_in, n_rem, n_mlt, n_mle, n_ltm, n_lem, n_eqm, n_meq, n_bit, n_shl, n_b0, n_b1, n_sub, n_inT, nT, nF, lT, lF, eT, eF, not_false_eq_true, not_true_eq_false, sI_at, sI_c, sI_j, aI_at, aI_c, sL_at, sL_c, sL_j, true_and, and_true, not_true_eq_false, not_false_eq_true, forall_const, true_implies, false_implies, implies_true, if_true, if_false, ite_true, ite_false, Bool.not_eq_true, Bool.not_eq_false, Bool.true_eq_false, Bool.false_eq_true, false_and, and_false, or_true, true_or, false_or, or_false, w1, e8, hdn, g1, q2, l_cmp0, e13, hba, q3]
        by_cases c1 : t.la1 < x.dt
        · by_cases c2 : x.dt < x.bf <;> simp only [c1, c2, if_true, if_false] at hK ⊢ <;> simp (disch := first | omega | assumption) only [n_lit, n_gLt, n_gLe, n_gEq, n_gEq2, n_gLe2, n_gLt2, n_m1, n_add, n_mul, n_lt, n_le, n_eq, n_cl, n_in, n_rem, n_mlt, n_mle, n_ltm, n_lem, n_eqm, n_meq, n_bit, n_shl, n_b0, n_b1, n_sub, n_inT, nT, nF, lT, lF, eT, eF, not_false_eq_true, not_true_eq_false, sI_at, sI_c, sI_j, aI_at, aI_c, sL_at, sL_c, sL_j, true_and, and_true, not_true_eq_false, not_false_eq_true, forall_const, true_implies, false_implies, implies_true, if_true, if_false, ite_true, ite_false, Bool.not_eq_true, Bool.not_eq_false, Bool.true_eq_false, Bool.false_eq_true, false_and, and_false, or_true, true_or, false_or, or_false] <;> first | exact hK | (simp only [c1, c2, if_true, if_false]; exact hK)
        · by_cases c2 : t.la1 < x.bf <;> simp only [c1, c2, if_true, if_false] at hK ⊢ <;> simp (disch := first | omega | assumption) only [n_lit, n_gLt, n_gLe, n_gEq, n_gEq2, n_gLe2, n_gLt2, n_m1, n_add, n_mul, n_lt, n_le, n_eq, n_cl, n_in, n_rem, n_mlt, n_mle, n_ltm, n_lem, n_eqm, n_meq, n_bit, n_shl, n_b0, n_b1, n_sub, n_inT, nT, nF, lT, lF, eT, eF, not_false_eq_true, not_true_eq_false, sI_at, sI_c, sI_j, aI_at, aI_c, sL_at, sL_c, sL_j, true_and, and_true, not_true_eq_false, not_false_eq_true, forall_const, true_implies, false_implies, implies_true, if_true, if_false, ite_true, ite_false, Bool.not_eq_true, Bool.not_eq_false, Bool.true_eq_false, Bool.false_eq_true, false_and, and_false, or_true, true_or, false_or, or_false] <;> first | exact hK | (simp only [c1, c2, if_true, if_false]; exact hK)
      | false =>
        simp only [hba, Bool.false_eq_true, if_false] at hK
        simp (disch := first | omega | assumption) only [n_lit, n_gLt, n_gLe, n_gEq, n_gEq2, n_gLe2, n_gLt2, n_m1, n_add, n_mul, n_lt, n_le, n_eq, n_cl, n_in, n_rem, n_mlt, n_mle, n_ltm, n_lem, n_eqm, n_meq, n_bit, n_shl, n_b0, n_b1, n_sub, n_inT, nT, nF, lT, lF, eT, eF, not_false_eq_true, not_true_eq_false, sI_at, sI_c, sI_j, aI_at, aI_c, sL_at, sL_c, sL_j, true_and, and_true, not_true_eq_false, not_false_eq_true, forall_const, true_implies, false_implies, implies_true, if_true, if_false, ite_true, ite_false, Bool.not_eq_true, Bool.not_eq_false, Bool.true_eq_false, Bool.false_eq_true, false_and, and_false, or_true, true_or, false_or, or_false, w1, e8, hdn, g1, q2, l_cmp0, e13, hba]
        by_cases c1 : t.la1 < x.dt <;> simp only [c1, if_true, if_false] at hK ⊢ <;> exact hK
    | false =>
      simp only [hdn, Bool.false_eq_true, if_false] at hK
      cases hba : anyN 64 x.ba with
      | true =>
        have q3 := w8 hba
        simp only [hba, if_true] at hK
        simp (disch := first | omega | assumption) only [n_lit, n_gLt, n_gLe, n_gEq, n_gEq2, n_gLe2, n_gLt2, n_m1, n_add, n_mul, n_lt, n_le, n_eq, n_cl, n_in, n_rem, n_mlt, n_mle, n_ltm, n_lem, n_eqm, n_meq, n_bit, n_shl, n_b0, n_b1, n_sub, n_inT, nT, nF, lT, lF, eT, eF, not_false_eq_true, not_true_eq_false, sI_at, sI_c, sI_j, aI_at, aI_c, sL_at, sL_c, sL_j, true_and, and_true, not_true_eq_false, not_false_eq_true, forall_const, true_implies, false_implies, implies_true, if_true, if_false, ite_true, ite_false, Bool.not_eq_true, Bool.not_eq_false, Bool.true_eq_false, Bool.false_eq_true, false_and, and_false, or_true, true_or, false_or, or_false, w1, e8, hdn, g1, l_cmp0, e13, hba, q3]
        by_cases c1 : t.la1 < x.bf <;> simp only [c1, if_true, if_false] at hK ⊢ <;> exact hK
      | false =>
        simp only [hba, Bool.false_eq_true, if_false] at hK
        simp (disch := first | omega | assumption) only [n_lit, n_gLt, n_gLe, n_gEq, n_gEq2, n_gLe2, n_gLt2, n_m1, n_add, n_mul, n_lt, n_le, n_eq, n_cl, n_in, n_rem, n_mlt, n_mle, n_ltm, n_lem, n_eqm, n_meq, n_bit, n_shl, n_b0, n_b1, n_sub, n_inT, nT, nF, lT, lF, eT, eF, not_false_eq_true, not_true_eq_false, sI_at, sI_c, sI_j, aI_at, aI_c, sL_at, sL_c, sL_j, true_and, and_true, not_true_eq_false, not_false_eq_true, forall_const, true_implies, false_implies, implies_true, if_true, if_false, ite_true, ite_false, Bool.not_eq_true, Bool.not_eq_false, Bool.true_eq_false, Bool.false_eq_true, false_and, and_false, or_true, true_or, false_or, or_false, w1, e8, hdn, g1, l_cmp0, e13, hba]
        exact hK
