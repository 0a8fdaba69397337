/-! QUESTIONS of a run: who is asked, of what; holders, held -/
def inR (a : Int32) (n : Nat) : Bool := decide (nI 0 ≤ a) && decide (a < nI n)
theorem inR_iff {a : Int32} {n : Nat} (hn : n ≤ 100000) : inR a n = true ↔ ∃ k, k < n ∧ a = nI k := by
  unfold inR
  rw [Bool.and_eq_true, decide_eq_true_iff, decide_eq_true_iff]
  constructor
  · rintro ⟨h1, h2⟩
    rcases n_sgn a with h | ⟨j, g, rfl⟩
    · exact absurd h1 (n_nat h 0 (by omega)).2.2.1
    · rw [n_lt g (by omega)] at h2
      exact ⟨j, h2, rfl⟩
  · rintro ⟨k, h1, rfl⟩
    rw [n_le (by omega) (by omega), n_lt (by omega) (by omega)]
    omega
theorem inR_out {a : Int32} {n : Nat} (hn : n ≤ 100000) (h : inR a n = false) : a < nI 0 ∨ ∃ j, n ≤ j ∧ j < 2147483648 ∧ a = nI j := by
  rcases n_sgn a with h1 | ⟨j, g, rfl⟩
  · exact Or.inl h1
  · refine Or.inr ⟨j, Nat.not_lt.mp fun q => ?_, g, rfl⟩
    rw [(inR_iff hn).mpr ⟨j, q, rfl⟩] at h
    cases h
def Bk.wd (B : Bk) (a1 a2 : Int32) : Wd := mkW (B.vl a1.toNatClampNeg) (B.vl a1.toNatClampNeg).m (B.tlOf a2) wi0
theorem c_onDay {a : Int32} {n : Nat} (hn : n ≤ 1000) {b : Bool} {I : MI} {L : ML} {K : Int32 → Bool → MI → ML → Prop} (hy : inR a (n + 1) = true → K (nI 1) b I L) (hf : inR a (n + 1) = false → K (nI 0) b I L) : CI m_S_onDay [vi a, vi (nI n)] b I L K := by
  refine v_S_onDay_0 ?_
  cases h : inR a (n + 1) with
  | true =>
    have g := hy h
    obtain ⟨k, hk, rfl⟩ := (inR_iff (by omega)).mp h
    simp (disch := first | omega | assumption) only [n_lit, n_gLt, n_gLe, n_gEq, n_gEq2, n_gLe2, n_gLt2, n_m1, n_add, n_mul, n_lt, n_le, n_eq, n_cl, n_in, n_rem, n_mlt, n_mle, n_ltm, n_lem, n_eqm, n_meq, n_bit, n_shl, n_b0, n_b1, n_sub, n_inT, nT, nF, lT, lF, eT, eF, not_false_eq_true, not_true_eq_false, sI_at, sI_c, sI_j, aI_at, aI_c, sL_at, sL_c, sL_j, true_and, and_true, not_true_eq_false, not_false_eq_true, forall_const, true_implies, false_implies, implies_true, if_true, if_false, ite_true, ite_false, Bool.not_eq_true, Bool.not_eq_false, Bool.true_eq_false, Bool.false_eq_true, false_and, and_false, or_true, true_or, false_or, or_false]
    exact g
  | false =>
    have g := hf h
    rcases inR_out (by omega) h with q | ⟨j, q1, q2, rfl⟩
    · simp (disch := first | omega | assumption) only [n_lit, n_gLt, n_gLe, n_gEq, n_gEq2, n_gLe2, n_gLt2, n_m1, n_add, n_mul, n_lt, n_le, n_eq, n_cl, n_in, n_rem, n_mlt, n_mle, n_ltm, n_lem, n_eqm, n_meq, n_bit, n_shl, n_b0, n_b1, n_sub, n_inT, nT, nF, lT, lF, eT, eF, not_false_eq_true, not_true_eq_false, sI_at, sI_c, sI_j, aI_at, aI_c, sL_at, sL_c, sL_j, true_and, and_true, not_true_eq_false, not_false_eq_true, forall_const, true_implies, false_implies, implies_true, if_true, if_false, ite_true, ite_false, Bool.not_eq_true, Bool.not_eq_false, Bool.true_eq_false, Bool.false_eq_true, false_and, and_false, or_true, true_or, false_or, or_false]
      exact g
    · simp (disch := first | omega | assumption) only [n_lit, n_gLt, n_gLe, n_gEq, n_gEq2, n_gLe2, n_gLt2, n_m1, n_add, n_mul, n_lt, n_le, n_eq, n_cl, n_in, n_rem, n_mlt, n_mle, n_ltm, n_lem, n_eqm, n_meq, n_bit, n_shl, n_b0, n_b1, n_sub, n_inT, nT, nF, lT, lF, eT, eF, not_false_eq_true, not_true_eq_false, sI_at, sI_c, sI_j, aI_at, aI_c, sL_at, sL_c, sL_j, true_and, and_true, not_true_eq_false, not_false_eq_true, forall_const, true_implies, false_implies, implies_true, if_true, if_false, ite_true, ite_false, Bool.not_eq_true, Bool.not_eq_false, Bool.true_eq_false, Bool.false_eq_true, false_and, and_false, or_true, true_or, false_or, or_false]
      exact g
/-- a village that is there, and somebody of it -/
def hpB (B : Bk) (a1 a2 : Int32) : Bool := inR a1 B.nv && inR a2 (B.vl a1.toNatClampNeg).n
theorem c_hasPerson {B : Bk} {a1 a2 : Int32} {b : Bool} {I : MI} {L : ML} {K : Int32 → Bool → MI → ML → Prop} (ok : B.ok) (hc : bkC 1 B I) (hy : hpB B a1 a2 = true → K (nI 1) b I L) (hf : hpB B a1 a2 = false → K (nI 0) b I L) : CI m_S_hasPerson [vr 21 0, vi a1, vi a2] b I L K := by
  have h1 := ok.1.1
  refine v_S_hasPerson_0 ?_
  cases h : inR a1 B.nv with
  | true =>
    obtain ⟨k, hk, rfl⟩ := (inR_iff (by omega)).mp h
    have hn := (ok.2.2.1 k hk).1.2
    have e1 : I (6 + 7 * k) 0 = nI (B.vl k).n := by
      have := (hc.2.2.1 k hk).1.1
      rw [show 1 + 5 + 7 * k = 6 + 7 * k by omega] at this
      exact this
    have ek : (nI k).toNatClampNeg = k := n_cl (by omega)
    unfold hpB at hy hf
    rw [h, Bool.true_and, ek] at hy hf
    refine c_hasV_y hc.1.1 (by omega) hk ?_
    simp (disch := first | omega | assumption) only [n_lit, n_gLt, n_gLe, n_gEq, n_gEq2, n_gLe2, n_gLt2, n_m1, n_add, n_mul, n_lt, n_le, n_eq, n_cl, n_in, n_rem, n_mlt, n_mle, n_ltm, n_lem, n_eqm, n_meq, n_bit, n_shl, n_b0, n_b1, n_sub, n_inT, nT, nF, lT, lF, eT, eF, not_false_eq_true, not_true_eq_false, sI_at, sI_c, sI_j, aI_at, aI_c, sL_at, sL_c, sL_j, true_and, and_true, not_true_eq_false, not_false_eq_true, forall_const, true_implies, false_implies, implies_true, if_true, if_false, ite_true, ite_false, Bool.not_eq_true, Bool.not_eq_false, Bool.true_eq_false, Bool.false_eq_true, false_and, and_false, or_true, true_or, false_or, or_false, Nat.reduceAdd]
    refine v_Village_has_0 ?_
    cases h2 : inR a2 (B.vl k).n with
    | true =>
      have g := hy h2
      obtain ⟨p, hp, rfl⟩ := (inR_iff (by omega)).mp h2
      simp (disch := first | omega | assumption) only [n_lit, n_gLt, n_gLe, n_gEq, n_gEq2, n_gLe2, n_gLt2, n_m1, n_add, n_mul, n_lt, n_le, n_eq, n_cl, n_in, n_rem, n_mlt, n_mle, n_ltm, n_lem, n_eqm, n_meq, n_bit, n_shl, n_b0, n_b1, n_sub, n_inT, nT, nF, lT, lF, eT, eF, not_false_eq_true, not_true_eq_false, sI_at, sI_c, sI_j, aI_at, aI_c, sL_at, sL_c, sL_j, true_and, and_true, not_true_eq_false, not_false_eq_true, forall_const, true_implies, false_implies, implies_true, if_true, if_false, ite_true, ite_false, Bool.not_eq_true, Bool.not_eq_false, Bool.true_eq_false, Bool.false_eq_true, false_and, and_false, or_true, true_or, false_or, or_false, e1]
      exact g
    | false =>
      have g := hf h2
      rcases inR_out (by omega) h2 with q | ⟨j, q1, q2, rfl⟩
      · simp (disch := first | omega | assumption) only [n_lit, n_gLt, n_gLe, n_gEq, n_gEq2, n_gLe2, n_gLt2, n_m1, n_add, n_mul, n_lt, n_le, n_eq, n_cl, n_in, n_rem, n_mlt, n_mle, n_ltm, n_lem, n_eqm, n_meq, n_bit, n_shl, n_b0, n_b1, n_sub, n_inT, nT, nF, lT, lF, eT, eF, not_false_eq_true, not_true_eq_false, sI_at, sI_c, sI_j, aI_at, aI_c, sL_at, sL_c, sL_j, true_and, and_true, not_true_eq_false, not_false_eq_true, forall_const, true_implies, false_implies, implies_true, if_true, if_false, ite_true, ite_false, Bool.not_eq_true, Bool.not_eq_false, Bool.true_eq_false, Bool.false_eq_true, false_and, and_false, or_true, true_or, false_or, or_false]
        exact g
      · simp (disch := first | omega | assumption) only [n_lit, n_gLt, n_gLe, n_gEq, n_gEq2, n_gLe2, n_gLt2, n_m1, n_add, n_mul, n_lt, n_le, n_eq, n_cl, n_in, n_rem, n_mlt, n_mle, n_ltm, n_lem, n_eqm, n_meq, n_bit, n_shl, n_b0, n_b1, n_sub, n_inT, nT, nF, lT, lF, eT, eF, not_false_eq_true, not_true_eq_false, sI_at, sI_c, sI_j, aI_at, aI_c, sL_at, sL_c, sL_j, true_and, and_true, not_true_eq_false, not_false_eq_true, forall_const, true_implies, false_implies, implies_true, if_true, if_false, ite_true, ite_false, Bool.not_eq_true, Bool.not_eq_false, Bool.true_eq_false, Bool.false_eq_true, false_and, and_false, or_true, true_or, false_or, or_false, e1]
        exact g
  | false =>
    have g := hf (by unfold hpB; rw [h, Bool.false_and])
    refine c_hasV_n hc.1.1 (by omega) (fun ⟨k, hk, e⟩ => by rw [(inR_iff (by omega)).mpr ⟨k, hk, e⟩] at h; cases h) ?_
    simp (disch := first | omega | assumption) only [n_lit, n_gLt, n_gLe, n_gEq, n_gEq2, n_gLe2, n_gLt2, n_m1, n_add, n_mul, n_lt, n_le, n_eq, n_cl, n_in, n_rem, n_mlt, n_mle, n_ltm, n_lem, n_eqm, n_meq, n_bit, n_shl, n_b0, n_b1, n_sub, n_inT, nT, nF, lT, lF, eT, eF, not_false_eq_true, not_true_eq_false, sI_at, sI_c, sI_j, aI_at, aI_c, sL_at, sL_c, sL_j, true_and, and_true, not_true_eq_false, not_false_eq_true, forall_const, true_implies, false_implies, implies_true, if_true, if_false, ite_true, ite_false, Bool.not_eq_true, Bool.not_eq_false, Bool.true_eq_false, Bool.false_eq_true, false_and, and_false, or_true, true_or, false_or, or_false]
    exact g
theorem tk_in {B : Bk} {a1 a2 : Int32} (ok : B.ok) (h : tkB B a1 a2 = true) : ∃ k, k < B.nv ∧ a1 = nI k ∧ (nI k).toNatClampNeg = k ∧ (B.vl k).ok 40 ∧ (B.tlOf a2).ok := by
  obtain ⟨⟨k, hk, rfl⟩, h2⟩ := (tkB_iff ok).mp h
  have := ok.1.1
  exact ⟨k, hk, rfl, n_cl (by omega), ok.2.2.1 k hk, tlOf_ok ok h2⟩
theorem ok41 {v : Vil} (h : v.ok 40) : v.ok 41 := by
  obtain ⟨q1, q2, q3, q4, q5, q6, q7⟩ := h
  refine ⟨q1, by omega, q3, q4, q5, q6, fun t ht => ?_⟩
  obtain ⟨z1, z2, z3, z4⟩ := q7 t ht
  exact ⟨z1, z2, fun h => absurd h (by omega), z4⟩
theorem c_takeW {B : Bk} {a1 a2 : Int32} {b : Bool} {I : MI} {L : ML} {K : Int32 → Bool → MI → ML → Prop} (ok : B.ok) (hc : bkC 1 B I) (hy : tkB B a1 a2 = true → ∀ I' L', (∀ a, a < 154 ∨ 186 ≤ a → I' a = I a) → WL (B.wd a1 a2) I' L' → lifeP (B.vl a1.toNatClampNeg) (B.vl a1.toNatClampNeg).m (B.tlOf a2) wi0 I' L' → K (nI 1) b I' L') (hn : tkB B a1 a2 = false → K (nI 0) b I L) : CI m_S_take [vr 21 0, vi a1, vi a2] b I L K :=
  c_take ok hc (fun h I' L' f l => by
    obtain ⟨k, hk, rfl, ek, hv, ht⟩ := tk_in ok h
    refine hy h I' L' f ?_ l
    rw [ek] at l
    unfold Bk.wd
    rw [ek]
    exact ⟨_, _, _, _, rfl, ok41 hv, ht, wi0_ok, l⟩) hn
theorem wd_la {B : Bk} {a1 a2 : Int32} (ok : B.ok) (h : tkB B a1 a2 = true) : (B.wd a1 a2).v.ok 40 := by
  obtain ⟨k, hk, rfl, ek, hv, ht⟩ := tk_in ok h
  unfold Bk.wd
  rw [ek]
  exact hv
/-- who holds on a day -/
def hold (w : Wd) (d p : Nat) : Bool := (stt w d).ha 0 p && !(stt w d).ha 1 p
def hdI (w : Wd) (d : Nat) : Int32 := bI w.v.n (hold w d)
def dnI (w : Wd) (d : Nat) : Int32 := bI w.v.n ((stt w d).ha 1)
theorem c_holdersOn {w : Wd} {d : Nat} (hd : d ≤ 200) (hn : w.v.n ≤ 16) {b : Bool} {I : MI} {L : ML} {K : Int32 → Bool → MI → ML → Prop} (r : rowC w d I L) (hK : K (hdI w d) b I L) : CI m_Days_holdersOn [vr 11 165, vi (nI d)] b I L K := by
  have e : I 167 d &&& (I 173 d ^^^ nM) = hdI w d := by
    refine bI_of (by omega) (fun i hi => ?_)
    have h0 := r.1.1 i hi
    have h1 := r.2.1.1 i hi
    simp only [Nat.reduceAdd] at h0 h1
    rw [b_and, b_xor, b_m1 i hi, Bool.xor_true, h0, h1]
    unfold hold
    cases decide (i < w.v.n)
    · simp
    · simp
  refine v_Days_holdersOn_0 ?_
  simp (disch := first | omega | assumption) only [n_lit, n_gLt, n_gLe, n_gEq, n_gEq2, n_gLe2, n_gLt2, n_m1, n_add, n_mul, n_lt, n_le, n_eq, n_cl, n_in, n_rem, n_mlt, n_mle, n_ltm, n_lem, n_eqm, n_meq, n_bit, n_shl, n_b0, n_b1, n_sub, n_inT, nT, nF, lT, lF, eT, eF, not_false_eq_true, not_true_eq_false, sI_at, sI_c, sI_j, aI_at, aI_c, sL_at, sL_c, sL_j, true_and, and_true, not_true_eq_false, not_false_eq_true, forall_const, true_implies, false_implies, implies_true, if_true, if_false, ite_true, ite_false, Bool.not_eq_true, Bool.not_eq_false, Bool.true_eq_false, Bool.false_eq_true, false_and, and_false, or_true, true_or, false_or, or_false, e]
  exact hK
theorem dn_row {w : Wd} {d : Nat} {I : MI} {L : ML} (hn : w.v.n ≤ 16) (r : rowC w d I L) : I 173 d = dnI w d := bI_of (by omega) (fun i hi => r.2.1.1 i hi)
theorem oc_holders : ∀ a1 a2 a3 a4 : Int32, (a4 = 0 ∨ a4 = 1) → OpC m_S_holders [vi a1, vi a2, vi a3, vi a4] (fun B => if (inR a3 201 && tkB B a1 a2) = true then (if a4 = nI 0 then hdI (B.wd a1 a2) a3.toNatClampNeg else dnI (B.wd a1 a2) a3.toNatClampNeg) else nM) := by
  intro a1 a2 a3 a4 h4
  intro B I b L K ok hc k
  dsimp only at k
  · refine v_S_holders_0 (c_onDay (n := 200) (by decide) (fun g1 => ?_) (fun g1 => ?_))
    · obtain ⟨d, hd, rfl⟩ := (inR_iff (by decide)).mp g1
      simp (disch := first | omega | assumption) only [n_lit, n_gLt, n_gLe, n_gEq, n_gEq2, n_gLe2, n_gLt2, n_m1, n_add, n_mul, n_lt, n_le, n_eq, n_cl, n_in, n_rem, n_mlt, n_mle, n_ltm, n_lem, n_eqm, n_meq, n_bit, n_shl, n_b0, n_b1, n_sub, n_inT, nT, nF, lT, lF, eT, eF, not_false_eq_true, not_true_eq_false, sI_at, sI_c, sI_j, aI_at, aI_c, sL_at, sL_c, sL_j, true_and, and_true, not_true_eq_false, not_false_eq_true, forall_const, true_implies, false_implies, implies_true, if_true, if_false, ite_true, ite_false, Bool.not_eq_true, Bool.not_eq_false, Bool.true_eq_false, Bool.false_eq_true, false_and, and_false, or_true, true_or, false_or, or_false]
      refine c_takeW ok hc (fun g2 I1 L1 f1 W1 _ => ?_) (fun g2 => ?_)
      · simp (disch := first | omega | assumption) only [n_lit, n_gLt, n_gLe, n_gEq, n_gEq2, n_gLe2, n_gLt2, n_m1, n_add, n_mul, n_lt, n_le, n_eq, n_cl, n_in, n_rem, n_mlt, n_mle, n_ltm, n_lem, n_eqm, n_meq, n_bit, n_shl, n_b0, n_b1, n_sub, n_inT, nT, nF, lT, lF, eT, eF, not_false_eq_true, not_true_eq_false, sI_at, sI_c, sI_j, aI_at, aI_c, sL_at, sL_c, sL_j, true_and, and_true, not_true_eq_false, not_false_eq_true, forall_const, true_implies, false_implies, implies_true, if_true, if_false, ite_true, ite_false, Bool.not_eq_true, Bool.not_eq_false, Bool.true_eq_false, Bool.false_eq_true, false_and, and_false, or_true, true_or, false_or, or_false]
        have hn := W1.vil.2.1.2
        refine c_live (w := B.wd a1 a2) (s0 := 0) (U := d + 1) (by omega) (by omega) (Or.inr ⟨by omega, rfl⟩) (Or.inl rfl) W1 (fun e he => absurd he (Nat.not_lt_zero _)) (by omega) (fun N I2 L2 f2 _ n1 n2 rows _ _ hN _ => ?_)
        have hN := hN rfl
        have kk := k b I2 L2 (fun a ha => (f2 a (by omega)).trans (f1 a (by omega)))
        rw [g1, g2] at kk
        by_cases c : a4 = nI 0
        · simp (disch := first | omega | assumption) only [n_lit, n_gLt, n_gLe, n_gEq, n_gEq2, n_gLe2, n_gLt2, n_m1, n_add, n_mul, n_lt, n_le, n_eq, n_cl, n_in, n_rem, n_mlt, n_mle, n_ltm, n_lem, n_eqm, n_meq, n_bit, n_shl, n_b0, n_b1, n_sub, n_inT, nT, nF, lT, lF, eT, eF, not_false_eq_true, not_true_eq_false, sI_at, sI_c, sI_j, aI_at, aI_c, sL_at, sL_c, sL_j, true_and, and_true, not_true_eq_false, not_false_eq_true, forall_const, true_implies, false_implies, implies_true, if_true, if_false, ite_true, ite_false, Bool.not_eq_true, Bool.not_eq_false, Bool.true_eq_false, Bool.false_eq_true, false_and, and_false, or_true, true_or, false_or, or_false, c] at kk
          simp (disch := first | omega | assumption) only [n_lit, n_gLt, n_gLe, n_gEq, n_gEq2, n_gLe2, n_gLt2, n_m1, n_add, n_mul, n_lt, n_le, n_eq, n_cl, n_in, n_rem, n_mlt, n_mle, n_ltm, n_lem, n_eqm, n_meq, n_bit, n_shl, n_b0, n_b1, n_sub, n_inT, nT, nF, lT, lF, eT, eF, not_false_eq_true, not_true_eq_false, sI_at, sI_c, sI_j, aI_at, aI_c, sL_at, sL_c, sL_j, true_and, and_true, not_true_eq_false, not_false_eq_true, forall_const, true_implies, false_implies, implies_true, if_true, if_false, ite_true, ite_false, Bool.not_eq_true, Bool.not_eq_false, Bool.true_eq_false, Bool.false_eq_true, false_and, and_false, or_true, true_or, false_or, or_false, c]
          exact c_holdersOn (by omega) hn (rows d (by omega)) kk
        · have e := dn_row hn (rows d (by omega))
          simp (disch := first | omega | assumption) only [n_lit, n_gLt, n_gLe, n_gEq, n_gEq2, n_gLe2, n_gLt2, n_m1, n_add, n_mul, n_lt, n_le, n_eq, n_cl, n_in, n_rem, n_mlt, n_mle, n_ltm, n_lem, n_eqm, n_meq, n_bit, n_shl, n_b0, n_b1, n_sub, n_inT, nT, nF, lT, lF, eT, eF, not_false_eq_true, not_true_eq_false, sI_at, sI_c, sI_j, aI_at, aI_c, sL_at, sL_c, sL_j, true_and, and_true, not_true_eq_false, not_false_eq_true, forall_const, true_implies, false_implies, implies_true, if_true, if_false, ite_true, ite_false, Bool.not_eq_true, Bool.not_eq_false, Bool.true_eq_false, Bool.false_eq_true, false_and, and_false, or_true, true_or, false_or, or_false, c] at kk
          simp (disch := first | omega | assumption) only [n_lit, n_gLt, n_gLe, n_gEq, n_gEq2, n_gLe2, n_gLt2, n_m1, n_add, n_mul, n_lt, n_le, n_eq, n_cl, n_in, n_rem, n_mlt, n_mle, n_ltm, n_lem, n_eqm, n_meq, n_bit, n_shl, n_b0, n_b1, n_sub, n_inT, nT, nF, lT, lF, eT, eF, not_false_eq_true, not_true_eq_false, sI_at, sI_c, sI_j, aI_at, aI_c, sL_at, sL_c, sL_j, true_and, and_true, not_true_eq_false, not_false_eq_true, forall_const, true_implies, false_implies, implies_true, if_true, if_false, ite_true, ite_false, Bool.not_eq_true, Bool.not_eq_false, Bool.true_eq_false, Bool.false_eq_true, false_and, and_false, or_true, true_or, false_or, or_false, c, e]
          exact kk
      · have kk := k b I L (fun _ _ => rfl)
        rw [g2, Bool.and_false] at kk
        simp (disch := first | omega | assumption) only [n_lit, n_gLt, n_gLe, n_gEq, n_gEq2, n_gLe2, n_gLt2, n_m1, n_add, n_mul, n_lt, n_le, n_eq, n_cl, n_in, n_rem, n_mlt, n_mle, n_ltm, n_lem, n_eqm, n_meq, n_bit, n_shl, n_b0, n_b1, n_sub, n_inT, nT, nF, lT, lF, eT, eF, not_false_eq_true, not_true_eq_false, sI_at, sI_c, sI_j, aI_at, aI_c, sL_at, sL_c, sL_j, true_and, and_true, not_true_eq_false, not_false_eq_true, forall_const, true_implies, false_implies, implies_true, if_true, if_false, ite_true, ite_false, Bool.not_eq_true, Bool.not_eq_false, Bool.true_eq_false, Bool.false_eq_true, false_and, and_false, or_true, true_or, false_or, or_false] at kk
        simp (disch := first | omega | assumption) only [n_lit, n_gLt, n_gLe, n_gEq, n_gEq2, n_gLe2, n_gLt2, n_m1, n_add, n_mul, n_lt, n_le, n_eq, n_cl, n_in, n_rem, n_mlt, n_mle, n_ltm, n_lem, n_eqm, n_meq, n_bit, n_shl, n_b0, n_b1, n_sub, n_inT, nT, nF, lT, lF, eT, eF, not_false_eq_true, not_true_eq_false, sI_at, sI_c, sI_j, aI_at, aI_c, sL_at, sL_c, sL_j, true_and, and_true, not_true_eq_false, not_false_eq_true, forall_const, true_implies, false_implies, implies_true, if_true, if_false, ite_true, ite_false, Bool.not_eq_true, Bool.not_eq_false, Bool.true_eq_false, Bool.false_eq_true, false_and, and_false, or_true, true_or, false_or, or_false]
        exact kk
    · have kk := k b I L (fun _ _ => rfl)
      rw [g1, Bool.false_and] at kk
      simp (disch := first | omega | assumption) only [n_lit, n_gLt, n_gLe, n_gEq, n_gEq2, n_gLe2, n_gLt2, n_m1, n_add, n_mul, n_lt, n_le, n_eq, n_cl, n_in, n_rem, n_mlt, n_mle, n_ltm, n_lem, n_eqm, n_meq, n_bit, n_shl, n_b0, n_b1, n_sub, n_inT, nT, nF, lT, lF, eT, eF, not_false_eq_true, not_true_eq_false, sI_at, sI_c, sI_j, aI_at, aI_c, sL_at, sL_c, sL_j, true_and, and_true, not_true_eq_false, not_false_eq_true, forall_const, true_implies, false_implies, implies_true, if_true, if_false, ite_true, ite_false, Bool.not_eq_true, Bool.not_eq_false, Bool.true_eq_false, Bool.false_eq_true, false_and, and_false, or_true, true_or, false_or, or_false] at kk
      simp (disch := first | omega | assumption) only [n_lit, n_gLt, n_gLe, n_gEq, n_gEq2, n_gLe2, n_gLt2, n_m1, n_add, n_mul, n_lt, n_le, n_eq, n_cl, n_in, n_rem, n_mlt, n_mle, n_ltm, n_lem, n_eqm, n_meq, n_bit, n_shl, n_b0, n_b1, n_sub, n_inT, nT, nF, lT, lF, eT, eF, not_false_eq_true, not_true_eq_false, sI_at, sI_c, sI_j, aI_at, aI_c, sL_at, sL_c, sL_j, true_and, and_true, not_true_eq_false, not_false_eq_true, forall_const, true_implies, false_implies, implies_true, if_true, if_false, ite_true, ite_false, Bool.not_eq_true, Bool.not_eq_false, Bool.true_eq_false, Bool.false_eq_true, false_and, and_false, or_true, true_or, false_or, or_false]
      exact kk
