/-! QUESTIONS of a run: chain -/
theorem cntB_one {S : Nat → Bool} {q : Nat} (hS : S q = false) : ∀ {n : Nat}, q < n → cntB (fun j => S j || decide (j = q)) n = cntB S n + 1
  | 0, h => absurd h (Nat.not_lt_zero _)
  | n + 1, h => by
    show cntB (fun j => S j || decide (j = q)) n + (S n || decide (n = q)).toNat = cntB S n + (S n).toNat + 1
    by_cases e : q = n
    · subst e
      rw [cntB_cong (f := fun j => S j || decide (j = q)) (g := S) (fun i hi => by
        show (S i || decide (i = q)) = S i
        rw [decide_eq_false (by omega), Bool.or_false]), decide_eq_true rfl, hS]
      rfl
    · rw [cntB_one hS (by omega : q < n), decide_eq_false (fun x => e x.symm), Bool.or_false]
      omega
theorem cntB_0 : ∀ n, cntB (fun _ => false) n = 0
  | 0 => rfl
  | n + 1 => by
    show cntB (fun _ => false) n + 0 = 0
    rw [cntB_0 n]
def nxO (w : Wd) (p : Nat) : Option Nat := match hon w 0 p 201 with
  | none => none
  | some e => if minN 99 (byF w 0 p e) w.v.m = 99 then none else some (minN 99 (byF w 0 p e) w.v.m)
theorem nxO_I (w : Wd) (p : Nat) : optI (nxO w p) = match hon w 0 p 201 with
  | none => nM
  | some e => byI w 0 p e := by
  unfold nxO
  cases hon w 0 p 201 with
  | none => rfl
  | some e =>
    show optI (if minN 99 (byF w 0 p e) w.v.m = 99 then none else some (minN 99 (byF w 0 p e) w.v.m)) = byI w 0 p e
    unfold byI byO
    split <;> rfl
theorem minN_at {f : Nat → Nat} : ∀ {n : Nat}, minN 99 f n ≠ 99 → ∃ i, i < n ∧ f i = minN 99 f n
  | 0, h => absurd rfl h
  | n + 1, h => by
    unfold minN at h ⊢
    by_cases c : f n < minN 99 f n
    · rw [if_pos c]
      exact ⟨n, by omega, rfl⟩
    · rw [if_neg c] at h ⊢
      obtain ⟨i, h1, h2⟩ := minN_at h
      exact ⟨i, by omega, h2⟩
theorem nxO_lt {w : Wd} (ok : w.v.ok 41) {p q : Nat} (h : nxO w p = some q) : q < w.v.n := by
  have hn := ok.1.2
  unfold nxO at h
  cases e : hon w 0 p 201 with
  | none =>
    rw [e] at h
    cases h
  | some d =>
    rw [e] at h
    have h : (if minN 99 (byF w 0 p d) w.v.m = 99 then none else some (minN 99 (byF w 0 p d) w.v.m)) = some q := h
    by_cases c : minN 99 (byF w 0 p d) w.v.m = 99
    · rw [if_pos c] at h
      cases h
    · rw [if_neg c] at h
      obtain ⟨i, h1, h2⟩ := minN_at c
      have h3 : minN 99 (byF w 0 p d) w.v.m = q := Option.some.inj h
      unfold byF at h2 h3 c
      by_cases g : brB w 0 p d i = true
      · rw [if_pos g] at h2
        have := (ok.2.2.2.2.2.2 i h1).1
        omega
      · rw [if_neg g] at h2
        omega
def endV (k : Int32) (m : Nat) : Int32 := if k = nM then nI m else -nI 2
def chS (w : Wd) (k : Int32) : Nat → (Nat → Bool) → Nat → Option Nat → Int32
  | 0, _, m, _ => endV k m
  | _ + 1, _, m, none => endV k m
  | u + 1, S, m, some q => if nI m = k then nI q else if S q = true then endV k (m + 1) else chS w k u (fun j => S j || decide (j = q)) (m + 1) (nxO w q)
theorem c_tellersBehind {w : Wd} {p : Nat} {k : Int32} {I : MI} {L : ML} (W : WL w I L) (hp : p < w.v.n) {b : Bool} {K : Int32 → Bool → MI → ML → Prop} (rows : ∀ e, e < 201 → rowC w e I L) (hK : K (chS w k (w.v.n + 1) (fun j => decide (j = p)) 0 (nxO w p)) b I L) : CI m_Run_tellersBehind [vr 14 153, vi (nI p), vi k] b I L K := by
  obtain ⟨vl, ok⟩ := W.vil
  have hn := ok.1.2
  have ev := vl.1.1
  have off : ∀ (m i one x3 : Int32) (y : Nat), m = nI y → K (endV k y) b I L → SW m_Run_tellersBehind 16 [vr 14 153, un, vi k, vi x3, vi m, vi one, vi (nI 0), vi i, un] [] b I L (kI K) := by
    intro m i one x3 y hm kk
    subst hm
    unfold endV at kk
    refine v_Run_tellersBehind_16 ?_
    have g : (¬ k = -1 → K (-2) b I L) ∧ (¬ ¬ k = -1 → K (nI y) b I L) := by
      by_cases c : k = nM
      · rw [if_pos c] at kk
        exact ⟨fun z => absurd c z, fun _ => kk⟩
      · rw [if_neg c] at kk
        exact ⟨fun _ => kk, fun z => absurd c z⟩
    exact ⟨fun _ => g, fun _ => ⟨fun _ => g, fun z => absurd rfl z⟩⟩
  have loop : ∀ u i, i + u = w.v.n + 1 → ∀ (S : Nat → Bool) (x : Int32) (p : Nat), (∀ q, q < 32 → bt x q = S q) → p < w.v.n → K (chS w k u S i (nxO w p)) b I L → SW m_Run_tellersBehind 16 [vr 14 153, un, vi k, vi x, vi (nI i), vi (nI p), vi (nI 1), vi (nI i), un] [] b I L (kI K) := by
    intro u
    induction u with
    | zero =>
      intro i hi S x p hx hp kk
      unfold chS endV at kk
      refine v_Run_tellersBehind_16 ?_
      by_cases c : k = nM
      · rw [if_pos c] at kk
        simp (disch := first | omega | assumption) only [n_lit, n_gLt, n_gLe, n_gEq, n_gEq2, n_gLe2, n_gLt2, n_m1, n_add, n_mul, n_lt, n_le, n_eq, n_cl, n_in, n_rem, n_mlt, n_mle, n_ltm, n_lem, n_eqm, n_meq, n_bit, n_shl, n_b0, n_b1, n_sub, n_inT, nT, nF, lT, lF, eT, eF, not_false_eq_true, not_true_eq_false, sI_at, sI_c, sI_j, aI_at, aI_c, sL_at, sL_c, sL_j, true_and, and_true, not_true_eq_false, not_false_eq_true, forall_const, true_implies, false_implies, implies_true, if_true, if_false, ite_true, ite_false, Bool.not_eq_true, Bool.not_eq_false, Bool.true_eq_false, Bool.false_eq_true, false_and, and_false, or_true, true_or, false_or, or_false, ev, c]
        exact kk
      · rw [if_neg c] at kk
        simp (disch := first | omega | assumption) only [n_lit, n_gLt, n_gLe, n_gEq, n_gEq2, n_gLe2, n_gLt2, n_m1, n_add, n_mul, n_lt, n_le, n_eq, n_cl, n_in, n_rem, n_mlt, n_mle, n_ltm, n_lem, n_eqm, n_meq, n_bit, n_shl, n_b0, n_b1, n_sub, n_inT, nT, nF, lT, lF, eT, eF, not_false_eq_true, not_true_eq_false, sI_at, sI_c, sI_j, aI_at, aI_c, sL_at, sL_c, sL_j, true_and, and_true, not_true_eq_false, not_false_eq_true, forall_const, true_implies, false_implies, implies_true, if_true, if_false, ite_true, ite_false, Bool.not_eq_true, Bool.not_eq_false, Bool.true_eq_false, Bool.false_eq_true, false_and, and_false, or_true, true_or, false_or, or_false, ev, c]
        exact kk
    | succ u ih =>
      intro i hi S x p hx hp kk
      refine v_Run_tellersBehind_16 ?_
      simp (disch := first | omega | assumption) only [n_lit, n_gLt, n_gLe, n_gEq, n_gEq2, n_gLe2, n_gLt2, n_m1, n_add, n_mul, n_lt, n_le, n_eq, n_cl, n_in, n_rem, n_mlt, n_mle, n_ltm, n_lem, n_eqm, n_meq, n_bit, n_shl, n_b0, n_b1, n_sub, n_inT, nT, nF, lT, lF, eT, eF, not_false_eq_true, not_true_eq_false, sI_at, sI_c, sI_j, aI_at, aI_c, sL_at, sL_c, sL_j, true_and, and_true, not_true_eq_false, not_false_eq_true, forall_const, true_implies, false_implies, implies_true, if_true, if_false, ite_true, ite_false, Bool.not_eq_true, Bool.not_eq_false, Bool.true_eq_false, Bool.false_eq_true, false_and, and_false, or_true, true_or, false_or, or_false, ev]
      refine c_firstHeard (s := 0) W (by omega) hp rows ?_
      have eo := nxO_I w p
      cases e : hon w 0 p 201 with
      | none =>
        have e2 : nxO w p = none := by
          unfold nxO
          rw [e]
        rw [e2] at kk
        have g := off (nI i) (nI (i + 1)) nM x i rfl kk
        unfold honI
        simp (disch := first | omega | assumption) only [n_lit, n_gLt, n_gLe, n_gEq, n_gEq2, n_gLe2, n_gLt2, n_m1, n_add, n_mul, n_lt, n_le, n_eq, n_cl, n_in, n_rem, n_mlt, n_mle, n_ltm, n_lem, n_eqm, n_meq, n_bit, n_shl, n_b0, n_b1, n_sub, n_inT, nT, nF, lT, lF, eT, eF, not_false_eq_true, not_true_eq_false, sI_at, sI_c, sI_j, aI_at, aI_c, sL_at, sL_c, sL_j, true_and, and_true, not_true_eq_false, not_false_eq_true, forall_const, true_implies, false_implies, implies_true, if_true, if_false, ite_true, ite_false, Bool.not_eq_true, Bool.not_eq_false, Bool.true_eq_false, Bool.false_eq_true, false_and, and_false, or_true, true_or, false_or, or_false]
        exact g
      | some d =>
        have hd := hon_lt e
        rw [e] at eo
        have eo : optI (nxO w p) = byI w 0 p d := eo
        unfold honI
        simp (disch := first | omega | assumption) only [n_lit, n_gLt, n_gLe, n_gEq, n_gEq2, n_gLe2, n_gLt2, n_m1, n_add, n_mul, n_lt, n_le, n_eq, n_cl, n_in, n_rem, n_mlt, n_mle, n_ltm, n_lem, n_eqm, n_meq, n_bit, n_shl, n_b0, n_b1, n_sub, n_inT, nT, nF, lT, lF, eT, eF, not_false_eq_true, not_true_eq_false, sI_at, sI_c, sI_j, aI_at, aI_c, sL_at, sL_c, sL_j, true_and, and_true, not_true_eq_false, not_false_eq_true, forall_const, true_implies, false_implies, implies_true, if_true, if_false, ite_true, ite_false, Bool.not_eq_true, Bool.not_eq_false, Bool.true_eq_false, Bool.false_eq_true, false_and, and_false, or_true, true_or, false_or, or_false]
        refine c_heardFrom (s := 0) W (by omega) hp hd rows ?_
        rw [← eo]
        cases e2 : nxO w p with
        | none =>
          rw [e2] at kk
          have g := off (nI i) (nI (i + 1)) nM x i rfl kk
          unfold optI
          simp (disch := first | omega | assumption) only [n_lit, n_gLt, n_gLe, n_gEq, n_gEq2, n_gLe2, n_gLt2, n_m1, n_add, n_mul, n_lt, n_le, n_eq, n_cl, n_in, n_rem, n_mlt, n_mle, n_ltm, n_lem, n_eqm, n_meq, n_bit, n_shl, n_b0, n_b1, n_sub, n_inT, nT, nF, lT, lF, eT, eF, not_false_eq_true, not_true_eq_false, sI_at, sI_c, sI_j, aI_at, aI_c, sL_at, sL_c, sL_j, true_and, and_true, not_true_eq_false, not_false_eq_true, forall_const, true_implies, false_implies, implies_true, if_true, if_false, ite_true, ite_false, Bool.not_eq_true, Bool.not_eq_false, Bool.true_eq_false, Bool.false_eq_true, false_and, and_false, or_true, true_or, false_or, or_false]
          exact g
        | some q =>
          have hq := nxO_lt ok e2
          have hxq := hx q (by omega)
          rw [e2] at kk
          unfold chS at kk
          unfold optI
          by_cases c : nI i = k
          · rw [if_pos c] at kk
            subst c
            cases hS : S q with
            | true =>
              rw [hS] at hxq
              simp (disch := first | omega | assumption) only [n_lit, n_gLt, n_gLe, n_gEq, n_gEq2, n_gLe2, n_gLt2, n_m1, n_add, n_mul, n_lt, n_le, n_eq, n_cl, n_in, n_rem, n_mlt, n_mle, n_ltm, n_lem, n_eqm, n_meq, n_bit, n_shl, n_b0, n_b1, n_sub, n_inT, nT, nF, lT, lF, eT, eF, not_false_eq_true, not_true_eq_false, sI_at, sI_c, sI_j, aI_at, aI_c, sL_at, sL_c, sL_j, true_and, and_true, not_true_eq_false, not_false_eq_true, forall_const, true_implies, false_implies, implies_true, if_true, if_false, ite_true, ite_false, Bool.not_eq_true, Bool.not_eq_false, Bool.true_eq_false, Bool.false_eq_true, false_and, and_false, or_true, true_or, false_or, or_false, hxq, Bool.toNat_true]
              exact kk
            | false =>
              rw [hS] at hxq
              simp (disch := first | omega | assumption) only [n_lit, n_gLt, n_gLe, n_gEq, n_gEq2, n_gLe2, n_gLt2, n_m1, n_add, n_mul, n_lt, n_le, n_eq, n_cl, n_in, n_rem, n_mlt, n_mle, n_ltm, n_lem, n_eqm, n_meq, n_bit, n_shl, n_b0, n_b1, n_sub, n_inT, nT, nF, lT, lF, eT, eF, not_false_eq_true, not_true_eq_false, sI_at, sI_c, sI_j, aI_at, aI_c, sL_at, sL_c, sL_j, true_and, and_true, not_true_eq_false, not_false_eq_true, forall_const, true_implies, false_implies, implies_true, if_true, if_false, ite_true, ite_false, Bool.not_eq_true, Bool.not_eq_false, Bool.true_eq_false, Bool.false_eq_true, false_and, and_false, or_true, true_or, false_or, or_false, hxq, Bool.toNat_false]
              exact kk
          · rw [if_neg c] at kk
            cases hS : S q with
            | true =>
              rw [hS] at hxq
              rw [if_pos hS] at kk
              have g := off (nI (i + 1)) (nI (i + 1)) (nI q) (x ||| nI (2 ^ q)) (i + 1) rfl kk
              simp (disch := first | omega | assumption) only [n_lit, n_gLt, n_gLe, n_gEq, n_gEq2, n_gLe2, n_gLt2, n_m1, n_add, n_mul, n_lt, n_le, n_eq, n_cl, n_in, n_rem, n_mlt, n_mle, n_ltm, n_lem, n_eqm, n_meq, n_bit, n_shl, n_b0, n_b1, n_sub, n_inT, nT, nF, lT, lF, eT, eF, not_false_eq_true, not_true_eq_false, sI_at, sI_c, sI_j, aI_at, aI_c, sL_at, sL_c, sL_j, true_and, and_true, not_true_eq_false, not_false_eq_true, forall_const, true_implies, false_implies, implies_true, if_true, if_false, ite_true, ite_false, Bool.not_eq_true, Bool.not_eq_false, Bool.true_eq_false, Bool.false_eq_true, false_and, and_false, or_true, true_or, false_or, or_false, hxq, Bool.toNat_true, c]
              exact g
            | false =>
              rw [hS] at hxq
              rw [if_neg (by rw [hS]; exact Bool.false_ne_true)] at kk
              have g := ih (i + 1) (by omega) (fun j => S j || decide (j = q)) (x ||| nI (2 ^ q)) q (fun j hj => by
                rw [b_or, hx j hj, b_2p hj]
                congr 1
                exact decide_eq_decide.mpr ⟨fun z => z.symm, fun z => z.symm⟩) hq kk
              simp (disch := first | omega | assumption) only [n_lit, n_gLt, n_gLe, n_gEq, n_gEq2, n_gLe2, n_gLt2, n_m1, n_add, n_mul, n_lt, n_le, n_eq, n_cl, n_in, n_rem, n_mlt, n_mle, n_ltm, n_lem, n_eqm, n_meq, n_bit, n_shl, n_b0, n_b1, n_sub, n_inT, nT, nF, lT, lF, eT, eF, not_false_eq_true, not_true_eq_false, sI_at, sI_c, sI_j, aI_at, aI_c, sL_at, sL_c, sL_j, true_and, and_true, not_true_eq_false, not_false_eq_true, forall_const, true_implies, false_implies, implies_true, if_true, if_false, ite_true, ite_false, Bool.not_eq_true, Bool.not_eq_false, Bool.true_eq_false, Bool.false_eq_true, false_and, and_false, or_true, true_or, false_or, or_false, hxq, Bool.toNat_false, c]
              exact g
  refine v_Run_tellersBehind_0 ?_
  have g := loop (w.v.n + 1) 0 (by omega) (fun j => decide (j = p)) (nI (2 ^ p)) p (fun j hj => by
    rw [b_2p hj]
    exact decide_eq_decide.mpr ⟨fun z => z.symm, fun z => z.symm⟩) hp hK
  simp (disch := first | omega | assumption) only [n_lit, n_gLt, n_gLe, n_gEq, n_gEq2, n_gLe2, n_gLt2, n_m1, n_add, n_mul, n_lt, n_le, n_eq, n_cl, n_in, n_rem, n_mlt, n_mle, n_ltm, n_lem, n_eqm, n_meq, n_bit, n_shl, n_b0, n_b1, n_sub, n_inT, nT, nF, lT, lF, eT, eF, not_false_eq_true, not_true_eq_false, sI_at, sI_c, sI_j, aI_at, aI_c, sL_at, sL_c, sL_j, true_and, and_true, not_true_eq_false, not_false_eq_true, forall_const, true_implies, false_implies, implies_true, if_true, if_false, ite_true, ite_false, Bool.not_eq_true, Bool.not_eq_false, Bool.true_eq_false, Bool.false_eq_true, false_and, and_false, or_true, true_or, false_or, or_false]
  exact g
