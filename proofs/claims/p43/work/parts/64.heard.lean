/-! QUESTIONS of a run: heard -/
def brB (w : Wd) (s p d t : Nat) : Bool := decide (w.v.to t = p) && (decide (w.v.dl s t ≤ d) && went w s (d - w.v.dl s t) t)
def byF (w : Wd) (s p d t : Nat) : Nat := if brB w s p d t = true then w.v.fr t else 99
def byO (x : Nat) : Int32 := if x = 99 then nM else nI x
def byI (w : Wd) (s p d : Nat) : Int32 := byO (minN 99 (byF w s p d) w.v.m)
theorem min_le {f : Nat → Nat} {n : Nat} : minN 99 f n ≤ 99 := (minN_iff.mp (Nat.le_refl _)).1
theorem br_iff {w : Wd} {s p d t : Nat} : brB w s p d t = true ↔ (w.v.to t = p ∧ w.v.dl s t ≤ d) ∧ went w s (d - w.v.dl s t) t = true := by
  unfold brB
  rw [Bool.and_eq_true, Bool.and_eq_true, decide_eq_true_iff, decide_eq_true_iff, and_assoc]
theorem hby_eq {w : Wd} (ok : w.v.ok 41) {s : Nat} (hs : s < 2) (p d : Nat) : hbyI w s p (some d) = byI w s p d := by
  have hd : ∀ t, t < w.v.m → 1 ≤ w.v.dl s t := fun t ht => (dl_le ok hs ht).1
  have e1 : (stp w d).bf s 1 p = minN 99 (byF w s p d) w.v.m := by
    rw [bf_hist1 w s p hd d]
    congr 1
    funext t
    unfold byF
    by_cases c : brB w s p d t = true
    · rw [if_pos c, if_pos (br_iff.mp c)]
    · rw [if_neg c, if_neg (fun q => c (br_iff.mpr q))]
  have e2 : (stp w d).du s 1 p = sumN (fun t => if (w.v.to t = p ∧ w.v.dl s t ≤ d) ∧ went w s (d - w.v.dl s t) t = true then w.v.st t else 0) w.v.m := by
    have := ca_hist w s p hd d
    unfold camS at this
    omega
  show (if 0 < (stp w d).du s 1 p then nI ((stp w d).bf s 1 p) else nM) = _
  unfold byI byO
  by_cases c : ∃ t, t < w.v.m ∧ brB w s p d t = true
  · obtain ⟨t, h1, h2⟩ := c
    have o := ok.2.2.2.2.2.2 t h1
    have hn := ok.1.2
    have f1 : minN 99 (byF w s p d) w.v.m ≤ w.v.fr t := by
      have := (minN_iff.mp (Nat.le_refl (minN 99 (byF w s p d) w.v.m))).2 t h1
      unfold byF at this
      rw [if_pos h2] at this
      exact this
    have f2 : 0 < (stp w d).du s 1 p := by
      rcases Nat.eq_zero_or_pos ((stp w d).du s 1 p) with z | z
      · rw [e2] at z
        have q : ∀ (f : Nat → Nat) n, sumN f n = 0 → ∀ i, i < n → f i = 0 := by
          intro f n
          induction n with
          | zero => intro _ i hi; omega
          | succ n ih =>
            intro h i hi
            unfold sumN at h
            by_cases e : i = n
            · subst e; omega
            · exact ih (by omega) i (by omega)
        have := q _ _ z t h1
        rw [if_pos (br_iff.mp h2)] at this
        omega
      · exact z
    rw [if_pos f2, if_neg (by omega), e1]
  · have f1 : minN 99 (byF w s p d) w.v.m = 99 := Nat.le_antisymm min_le (minN_iff.mpr ⟨Nat.le_refl _, fun i hi => by
      unfold byF
      rw [if_neg (fun q => c ⟨i, hi, q⟩)]
      exact Nat.le_refl _⟩)
    have f2 : (stp w d).du s 1 p = 0 := by
      rw [e2]
      refine sumN_all0 (fun i hi => if_neg (fun q => c ⟨i, hi, br_iff.mpr q⟩))
    rw [if_neg (by omega), if_pos f1]
theorem c_firstHeard {w : Wd} {s p : Nat} {I : MI} {L : ML} (W : WL w I L) (hs : s < 2) (hp : p < w.v.n) {b : Bool} {K : Int32 → Bool → MI → ML → Prop} (rows : ∀ e, e < 201 → rowC w e I L) (hK : K (honI (hon w s p 201)) b I L) : CI m_Run_firstHeard [vr 14 153, vi (nI p), vi (nI s)] b I L K := by
  have ok := W.vil.2
  have hn := ok.1.2
  obtain ⟨r, hr⟩ : ∃ r, isR s r := by
    rcases (by omega : s = 0 ∨ s = 1) with rfl | rfl
    · exact ⟨166, Or.inl ⟨rfl, rfl⟩⟩
    · exact ⟨172, Or.inr ⟨rfl, rfl⟩⟩
  have ce : ∀ d, d ≤ 200 → I (r + 4) (d * 16 + p) = nI (camS w d (stp w d) s p) := fun d hd => by
    have R := rows d (by omega)
    rcases hr with ⟨rfl, rfl⟩ | ⟨rfl, rfl⟩
    · have := R.1.2.2.2.1 p hp
      rw [stt_ca] at this
      exact this
    · have := R.2.1.2.2.2.1 p hp
      rw [stt_ca] at this
      exact this
  have loop : ∀ n i, i + n = 201 → K (honI (fstN (fun e => decide (0 < camS w e (stp w e) s p)) n i)) b I L → SW m_Run_firstHeard 12 [un, vi (nI p), un, vr 16 r, vi (nI i)] [] b I L (kI K) := by
    intro n
    induction n with
    | zero =>
      intro i hi kk
      obtain rfl : i = 201 := by omega
      refine v_Run_firstHeard_12 ?_
      simp (disch := first | omega | assumption) only [n_lit, n_gLt, n_gLe, n_gEq, n_gEq2, n_gLe2, n_gLt2, n_m1, n_add, n_mul, n_lt, n_le, n_eq, n_cl, n_in, n_rem, n_mlt, n_mle, n_ltm, n_lem, n_eqm, n_meq, n_bit, n_shl, n_b0, n_b1, n_sub, n_inT, nT, nF, lT, lF, eT, eF, not_false_eq_true, not_true_eq_false, sI_at, sI_c, sI_j, aI_at, aI_c, sL_at, sL_c, sL_j, true_and, and_true, not_true_eq_false, not_false_eq_true, forall_const, true_implies, false_implies, implies_true, if_true, if_false, ite_true, ite_false, Bool.not_eq_true, Bool.not_eq_false, Bool.true_eq_false, Bool.false_eq_true, false_and, and_false, or_true, true_or, false_or, or_false]
      exact kk
    | succ n ih =>
      intro i hi kk
      have e := ce i (by omega)
      have bd := cam_le W hs i p
      unfold fstN at kk
      refine v_Run_firstHeard_12 ?_
      by_cases c : 0 < camS w i (stp w i) s p
      · rw [if_pos (decide_eq_true c)] at kk
        simp (disch := first | omega | assumption) only [n_lit, n_gLt, n_gLe, n_gEq, n_gEq2, n_gLe2, n_gLt2, n_m1, n_add, n_mul, n_lt, n_le, n_eq, n_cl, n_in, n_rem, n_mlt, n_mle, n_ltm, n_lem, n_eqm, n_meq, n_bit, n_shl, n_b0, n_b1, n_sub, n_inT, nT, nF, lT, lF, eT, eF, not_false_eq_true, not_true_eq_false, sI_at, sI_c, sI_j, aI_at, aI_c, sL_at, sL_c, sL_j, true_and, and_true, not_true_eq_false, not_false_eq_true, forall_const, true_implies, false_implies, implies_true, if_true, if_false, ite_true, ite_false, Bool.not_eq_true, Bool.not_eq_false, Bool.true_eq_false, Bool.false_eq_true, false_and, and_false, or_true, true_or, false_or, or_false, e]
        exact kk
      · rw [if_neg (by rw [decide_eq_false c]; exact Bool.false_ne_true)] at kk
        have nxt := ih (i + 1) (by omega) kk
        simp (disch := first | omega | assumption) only [n_lit, n_gLt, n_gLe, n_gEq, n_gEq2, n_gLe2, n_gLt2, n_m1, n_add, n_mul, n_lt, n_le, n_eq, n_cl, n_in, n_rem, n_mlt, n_mle, n_ltm, n_lem, n_eqm, n_meq, n_bit, n_shl, n_b0, n_b1, n_sub, n_inT, nT, nF, lT, lF, eT, eF, not_false_eq_true, not_true_eq_false, sI_at, sI_c, sI_j, aI_at, aI_c, sL_at, sL_c, sL_j, true_and, and_true, not_true_eq_false, not_false_eq_true, forall_const, true_implies, false_implies, implies_true, if_true, if_false, ite_true, ite_false, Bool.not_eq_true, Bool.not_eq_false, Bool.true_eq_false, Bool.false_eq_true, false_and, and_false, or_true, true_or, false_or, or_false, e]
        exact nxt
  exact v_Run_firstHeard_0 (c_side hr (loop 201 0 (by omega) hK))
theorem c_heardFrom {w : Wd} {s p d : Nat} {I : MI} {L : ML} (W : WL w I L) (hs : s < 2) (hp : p < w.v.n) (hd : d ≤ 200) {b : Bool} {K : Int32 → Bool → MI → ML → Prop} (rows : ∀ e, e < 201 → rowC w e I L) (hK : K (byI w s p d) b I L) : CI m_Run_heardFrom [vr 14 153, vi (nI p), vi (nI d), vi (nI s)] b I L K := by
  obtain ⟨vl, ok⟩ := W.vil
  have hn := ok.1.2
  have hm := ok.2.1
  obtain ⟨r, hr⟩ : ∃ r, isR s r := by
    rcases (by omega : s = 0 ∨ s = 1) with rfl | rfl
    · exact ⟨166, Or.inl ⟨rfl, rfl⟩⟩
    · exact ⟨172, Or.inr ⟨rfl, rfl⟩⟩
  have hrow : ∀ e, e < d + 1 → ∀ k, k < 64 → bl (L (r + 3) e) k = (decide (k < w.v.m) && went w s e k) := fun e he k hk => by
    have R := rows e (by omega)
    rcases hr with ⟨rfl, rfl⟩ | ⟨rfl, rfl⟩
    · exact R.1.2.2.1 k hk
    · exact R.2.1.2.2.1 k hk
  have e3 := vl.1.2.1
  have loop : ∀ n i, i + n = w.v.m → SW m_Run_heardFrom 16 [vr 14 153, vi (nI p), vi (nI d), vi (nI s), vr 16 r, vi (byO (minN 99 (byF w s p d) i)), vi (nI i), un] [] b I L (kI K) := by
    intro n
    induction n with
    | zero =>
      intro i hi
      obtain rfl : i = w.v.m := by omega
      refine v_Run_heardFrom_16 ?_
      simp (disch := first | omega | assumption) only [n_lit, n_gLt, n_gLe, n_gEq, n_gEq2, n_gLe2, n_gLt2, n_m1, n_add, n_mul, n_lt, n_le, n_eq, n_cl, n_in, n_rem, n_mlt, n_mle, n_ltm, n_lem, n_eqm, n_meq, n_bit, n_shl, n_b0, n_b1, n_sub, n_inT, nT, nF, lT, lF, eT, eF, not_false_eq_true, not_true_eq_false, sI_at, sI_c, sI_j, aI_at, aI_c, sL_at, sL_c, sL_j, true_and, and_true, not_true_eq_false, not_false_eq_true, forall_const, true_implies, false_implies, implies_true, if_true, if_false, ite_true, ite_false, Bool.not_eq_true, Bool.not_eq_false, Bool.true_eq_false, Bool.false_eq_true, false_and, and_false, or_true, true_or, false_or, or_false, e3]
      exact hK
    | succ n ih =>
      intro i hi
      have nxt := ih (i + 1) (by omega)
      obtain ⟨t1, t2, t3, t4⟩ := vl.2.2 i (by omega)
      obtain ⟨o1, o2, o3, o4, o5, o6⟩ := ok.2.2.2.2.2.2 i (by omega)
      have hdl := dl_le ok hs (show i < w.v.m by omega)
      have ml : minN 99 (byF w s p d) i ≤ 99 := min_le
      have en : minN 99 (byF w s p d) (i + 1) = if byF w s p d i < minN 99 (byF w s p d) i then byF w s p d i else minN 99 (byF w s p d) i := rfl
      have skip : brB w s p d i = false → byO (minN 99 (byF w s p d) (i + 1)) = byO (minN 99 (byF w s p d) i) := fun q => by
        have : byF w s p d i = 99 := by
          unfold byF
          rw [q]
          rfl
        rw [en, if_neg (by omega)]
      refine v_Run_heardFrom_16 ?_
      by_cases c : w.v.to i = p
      · subst c
        simp (disch := first | omega | assumption) only [n_lit, n_gLt, n_gLe, n_gEq, n_gEq2, n_gLe2, n_gLt2, n_m1, n_add, n_mul, n_lt, n_le, n_eq, n_cl, n_in, n_rem, n_mlt, n_mle, n_ltm, n_lem, n_eqm, n_meq, n_bit, n_shl, n_b0, n_b1, n_sub, n_inT, nT, nF, lT, lF, eT, eF, not_false_eq_true, not_true_eq_false, sI_at, sI_c, sI_j, aI_at, aI_c, sL_at, sL_c, sL_j, true_and, and_true, not_true_eq_false, not_false_eq_true, forall_const, true_implies, false_implies, implies_true, if_true, if_false, ite_true, ite_false, Bool.not_eq_true, Bool.not_eq_false, Bool.true_eq_false, Bool.false_eq_true, false_and, and_false, or_true, true_or, false_or, or_false, e3, t2]
        refine c_delay vl hs (by omega) hm (c_went hr hrow hd (by omega) hm (by omega) (Or.inl (by omega)) ?_)
        have eb : brB w s (w.v.to i) d i = (decide (w.v.dl s i ≤ d) && went w s (d - w.v.dl s i) i) := by
          unfold brB
          rw [decide_eq_true rfl, Bool.true_and]
        rw [← eb]
        cases q : brB w s (w.v.to i) d i with
        | false =>
          rw [skip q] at nxt
          simp (disch := first | omega | assumption) only [n_lit, n_gLt, n_gLe, n_gEq, n_gEq2, n_gLe2, n_gLt2, n_m1, n_add, n_mul, n_lt, n_le, n_eq, n_cl, n_in, n_rem, n_mlt, n_mle, n_ltm, n_lem, n_eqm, n_meq, n_bit, n_shl, n_b0, n_b1, n_sub, n_inT, nT, nF, lT, lF, eT, eF, not_false_eq_true, not_true_eq_false, sI_at, sI_c, sI_j, aI_at, aI_c, sL_at, sL_c, sL_j, true_and, and_true, not_true_eq_false, not_false_eq_true, forall_const, true_implies, false_implies, implies_true, if_true, if_false, ite_true, ite_false, Bool.not_eq_true, Bool.not_eq_false, Bool.true_eq_false, Bool.false_eq_true, false_and, and_false, or_true, true_or, false_or, or_false, Bool.toNat_false]
          exact nxt
        | true =>
          have bf : byF w s (w.v.to i) d i = w.v.fr i := by
            unfold byF
            rw [if_pos q]
          rw [bf] at en
          rw [en] at nxt
          generalize minN 99 (byF w s (w.v.to i) d) i = mm at nxt ml
          unfold byO at nxt
          unfold byO
          by_cases c1 : mm = 99
          · subst c1
            have e9 : (if w.v.fr i < 99 then w.v.fr i else 99) = w.v.fr i := if_pos (by omega)
            rw [e9, if_neg (by omega)] at nxt
            rw [if_pos rfl]
            simp (disch := first | omega | assumption) only [n_lit, n_gLt, n_gLe, n_gEq, n_gEq2, n_gLe2, n_gLt2, n_m1, n_add, n_mul, n_lt, n_le, n_eq, n_cl, n_in, n_rem, n_mlt, n_mle, n_ltm, n_lem, n_eqm, n_meq, n_bit, n_shl, n_b0, n_b1, n_sub, n_inT, nT, nF, lT, lF, eT, eF, not_false_eq_true, not_true_eq_false, sI_at, sI_c, sI_j, aI_at, aI_c, sL_at, sL_c, sL_j, true_and, and_true, not_true_eq_false, not_false_eq_true, forall_const, true_implies, false_implies, implies_true, if_true, if_false, ite_true, ite_false, Bool.not_eq_true, Bool.not_eq_false, Bool.true_eq_false, Bool.false_eq_true, false_and, and_false, or_true, true_or, false_or, or_false, Bool.toNat_true, t1]
            exact nxt
          · by_cases c2 : w.v.fr i < mm
            · rw [if_pos c2, if_neg (by omega)] at nxt
              rw [if_neg c1]
              simp (disch := first | omega | assumption) only [n_lit, n_gLt, n_gLe, n_gEq, n_gEq2, n_gLe2, n_gLt2, n_m1, n_add, n_mul, n_lt, n_le, n_eq, n_cl, n_in, n_rem, n_mlt, n_mle, n_ltm, n_lem, n_eqm, n_meq, n_bit, n_shl, n_b0, n_b1, n_sub, n_inT, nT, nF, lT, lF, eT, eF, not_false_eq_true, not_true_eq_false, sI_at, sI_c, sI_j, aI_at, aI_c, sL_at, sL_c, sL_j, true_and, and_true, not_true_eq_false, not_false_eq_true, forall_const, true_implies, false_implies, implies_true, if_true, if_false, ite_true, ite_false, Bool.not_eq_true, Bool.not_eq_false, Bool.true_eq_false, Bool.false_eq_true, false_and, and_false, or_true, true_or, false_or, or_false, Bool.toNat_true, t1]
              exact nxt
            · rw [if_neg c2, if_neg c1] at nxt
              rw [if_neg c1]
              simp (disch := first | omega | assumption) only [n_lit, n_gLt, n_gLe, n_gEq, n_gEq2, n_gLe2, n_gLt2, n_m1, n_add, n_mul, n_lt, n_le, n_eq, n_cl, n_in, n_rem, n_mlt, n_mle, n_ltm, n_lem, n_eqm, n_meq, n_bit, n_shl, n_b0, n_b1, n_sub, n_inT, nT, nF, lT, lF, eT, eF, not_false_eq_true, not_true_eq_false, sI_at, sI_c, sI_j, aI_at, aI_c, sL_at, sL_c, sL_j, true_and, and_true, not_true_eq_false, not_false_eq_true, forall_const, true_implies, false_implies, implies_true, if_true, if_false, ite_true, ite_false, Bool.not_eq_true, Bool.not_eq_false, Bool.true_eq_false, Bool.false_eq_true, false_and, and_false, or_true, true_or, false_or, or_false, Bool.toNat_true, t1]
              exact nxt
      · have q : brB w s p d i = false := by
          unfold brB
          rw [decide_eq_false c, Bool.false_and]
        rw [skip q] at nxt
        simp (disch := first | omega | assumption) only [n_lit, n_gLt, n_gLe, n_gEq, n_gEq2, n_gLe2, n_gLt2, n_m1, n_add, n_mul, n_lt, n_le, n_eq, n_cl, n_in, n_rem, n_mlt, n_mle, n_ltm, n_lem, n_eqm, n_meq, n_bit, n_shl, n_b0, n_b1, n_sub, n_inT, nT, nF, lT, lF, eT, eF, not_false_eq_true, not_true_eq_false, sI_at, sI_c, sI_j, aI_at, aI_c, sL_at, sL_c, sL_j, true_and, and_true, not_true_eq_false, not_false_eq_true, forall_const, true_implies, false_implies, implies_true, if_true, if_false, ite_true, ite_false, Bool.not_eq_true, Bool.not_eq_false, Bool.true_eq_false, Bool.false_eq_true, false_and, and_false, or_true, true_or, false_or, or_false, e3, t2, c]
        exact nxt
  exact v_Run_heardFrom_0 (c_side hr (loop w.v.m 0 (by omega)))
def qHea (w : Wd) (p s f : Nat) : Int32 := match hon w s p 201 with
  | none => -nI 2
  | some e => if f = 0 then nI e else byI w s p e
theorem hon_lt {w : Wd} {s p e : Nat} (h : hon w s p 201 = some e) : e ≤ 200 := by
  have := (fstN_some h).1.2
  omega
theorem oc_heard : ∀ a1 a2 a3 : Int32, ∀ s f : Nat, s < 2 → f < 2 → OpC m_S_heard [vi a1, vi a2, vi a3, vi (nI s), vi (nI f)] (fun B => if (hpB B a1 a3 && tkB B a1 a2) = true then qHea (B.wd a1 a2) a3.toNatClampNeg s f else -nI 2) := by
  intro a1 a2 a3 s f hs hf
  intro B I b L K ok hc k
  dsimp only at k
  · refine v_S_heard_0 (c_hasPerson ok hc (fun g3 => ?_) (fun g3 => ?_))
    · simp (disch := first | omega | assumption) only [n_lit, n_gLt, n_gLe, n_gEq, n_gEq2, n_gLe2, n_gLt2, n_m1, n_add, n_mul, n_lt, n_le, n_eq, n_cl, n_in, n_rem, n_mlt, n_mle, n_ltm, n_lem, n_eqm, n_meq, n_bit, n_shl, n_b0, n_b1, n_sub, n_inT, nT, nF, lT, lF, eT, eF, not_false_eq_true, not_true_eq_false, sI_at, sI_c, sI_j, aI_at, aI_c, sL_at, sL_c, sL_j, true_and, and_true, not_true_eq_false, not_false_eq_true, forall_const, true_implies, false_implies, implies_true, if_true, if_false, ite_true, ite_false, Bool.not_eq_true, Bool.not_eq_false, Bool.true_eq_false, Bool.false_eq_true, false_and, and_false, or_true, true_or, false_or, or_false]
      refine c_takeW ok hc (fun g2 I1 L1 f1 W1 _ => ?_) (fun g2 => ?_)
      · have hn := W1.vil.2.1.2
        have g4 := hp_tk (a3 := a3) ok g2
        rw [g3] at g4
        obtain ⟨p, hp, rfl⟩ := (inR_iff (by omega)).mp g4.symm
        simp (disch := first | omega | assumption) only [n_lit, n_gLt, n_gLe, n_gEq, n_gEq2, n_gLe2, n_gLt2, n_m1, n_add, n_mul, n_lt, n_le, n_eq, n_cl, n_in, n_rem, n_mlt, n_mle, n_ltm, n_lem, n_eqm, n_meq, n_bit, n_shl, n_b0, n_b1, n_sub, n_inT, nT, nF, lT, lF, eT, eF, not_false_eq_true, not_true_eq_false, sI_at, sI_c, sI_j, aI_at, aI_c, sL_at, sL_c, sL_j, true_and, and_true, not_true_eq_false, not_false_eq_true, forall_const, true_implies, false_implies, implies_true, if_true, if_false, ite_true, ite_false, Bool.not_eq_true, Bool.not_eq_false, Bool.true_eq_false, Bool.false_eq_true, false_and, and_false, or_true, true_or, false_or, or_false]
        refine c_live (w := B.wd a1 a2) (s0 := 0) (U := 201) (by omega) (by omega) (Or.inr ⟨by omega, rfl⟩) (Or.inl rfl) W1 (fun e he => absurd he (Nat.not_lt_zero _)) (by omega) (fun N I2 L2 f2 l2 n1 n2 rows R _ hN _ => ?_)
        have hN := hN rfl
        clear R
        subst hN
        have W2 : WL (B.wd a1 a2) I2 L2 := W1.fr (fun a c1 c2 => f2 a (by omega)) (fun a ha => l2 a (by omega) (by omega) (by omega))
        have kk := k b I2 L2 (fun a ha => (f2 a (by omega)).trans (f1 a (by omega)))
        rw [g2, g3] at kk
        simp (disch := first | omega | assumption) only [n_lit, n_gLt, n_gLe, n_gEq, n_gEq2, n_gLe2, n_gLt2, n_m1, n_add, n_mul, n_lt, n_le, n_eq, n_cl, n_in, n_rem, n_mlt, n_mle, n_ltm, n_lem, n_eqm, n_meq, n_bit, n_shl, n_b0, n_b1, n_sub, n_inT, nT, nF, lT, lF, eT, eF, not_false_eq_true, not_true_eq_false, sI_at, sI_c, sI_j, aI_at, aI_c, sL_at, sL_c, sL_j, true_and, and_true, not_true_eq_false, not_false_eq_true, forall_const, true_implies, false_implies, implies_true, if_true, if_false, ite_true, ite_false, Bool.not_eq_true, Bool.not_eq_false, Bool.true_eq_false, Bool.false_eq_true, false_and, and_false, or_true, true_or, false_or, or_false] at kk
        unfold qHea at kk
        refine c_firstHeard W2 hs hp rows ?_
        cases e : hon (B.wd a1 a2) s p 201 with
        | none =>
          rw [e] at kk
          unfold honI
          simp (disch := first | omega | assumption) only [n_lit, n_gLt, n_gLe, n_gEq, n_gEq2, n_gLe2, n_gLt2, n_m1, n_add, n_mul, n_lt, n_le, n_eq, n_cl, n_in, n_rem, n_mlt, n_mle, n_ltm, n_lem, n_eqm, n_meq, n_bit, n_shl, n_b0, n_b1, n_sub, n_inT, nT, nF, lT, lF, eT, eF, not_false_eq_true, not_true_eq_false, sI_at, sI_c, sI_j, aI_at, aI_c, sL_at, sL_c, sL_j, true_and, and_true, not_true_eq_false, not_false_eq_true, forall_const, true_implies, false_implies, implies_true, if_true, if_false, ite_true, ite_false, Bool.not_eq_true, Bool.not_eq_false, Bool.true_eq_false, Bool.false_eq_true, false_and, and_false, or_true, true_or, false_or, or_false]
          exact kk
        | some d =>
          have hd := hon_lt e
          rw [e] at kk
          unfold honI
          rcases (by omega : f = 0 ∨ f = 1) with rfl | rfl
          · simp (disch := first | omega | assumption) only [n_lit, n_gLt, n_gLe, n_gEq, n_gEq2, n_gLe2, n_gLt2, n_m1, n_add, n_mul, n_lt, n_le, n_eq, n_cl, n_in, n_rem, n_mlt, n_mle, n_ltm, n_lem, n_eqm, n_meq, n_bit, n_shl, n_b0, n_b1, n_sub, n_inT, nT, nF, lT, lF, eT, eF, not_false_eq_true, not_true_eq_false, sI_at, sI_c, sI_j, aI_at, aI_c, sL_at, sL_c, sL_j, true_and, and_true, not_true_eq_false, not_false_eq_true, forall_const, true_implies, false_implies, implies_true, if_true, if_false, ite_true, ite_false, Bool.not_eq_true, Bool.not_eq_false, Bool.true_eq_false, Bool.false_eq_true, false_and, and_false, or_true, true_or, false_or, or_false]
            exact kk
          · simp (disch := first | omega | assumption) only [n_lit, n_gLt, n_gLe, n_gEq, n_gEq2, n_gLe2, n_gLt2, n_m1, n_add, n_mul, n_lt, n_le, n_eq, n_cl, n_in, n_rem, n_mlt, n_mle, n_ltm, n_lem, n_eqm, n_meq, n_bit, n_shl, n_b0, n_b1, n_sub, n_inT, nT, nF, lT, lF, eT, eF, not_false_eq_true, not_true_eq_false, sI_at, sI_c, sI_j, aI_at, aI_c, sL_at, sL_c, sL_j, true_and, and_true, not_true_eq_false, not_false_eq_true, forall_const, true_implies, false_implies, implies_true, if_true, if_false, ite_true, ite_false, Bool.not_eq_true, Bool.not_eq_false, Bool.true_eq_false, Bool.false_eq_true, false_and, and_false, or_true, true_or, false_or, or_false]
            exact c_heardFrom W2 hs hp hd rows kk
      · have kk := k b I L (fun _ _ => rfl)
        rw [g2, Bool.and_false] at kk
        simp (disch := first | omega | assumption) only [n_lit, n_gLt, n_gLe, n_gEq, n_gEq2, n_gLe2, n_gLt2, n_m1, n_add, n_mul, n_lt, n_le, n_eq, n_cl, n_in, n_rem, n_mlt, n_mle, n_ltm, n_lem, n_eqm, n_meq, n_bit, n_shl, n_b0, n_b1, n_sub, n_inT, nT, nF, lT, lF, eT, eF, not_false_eq_true, not_true_eq_false, sI_at, sI_c, sI_j, aI_at, aI_c, sL_at, sL_c, sL_j, true_and, and_true, not_true_eq_false, not_false_eq_true, forall_const, true_implies, false_implies, implies_true, if_true, if_false, ite_true, ite_false, Bool.not_eq_true, Bool.not_eq_false, Bool.true_eq_false, Bool.false_eq_true, false_and, and_false, or_true, true_or, false_or, or_false] at kk
        simp (disch := first | omega | assumption) only [n_lit, n_gLt, n_gLe, n_gEq, n_gEq2, n_gLe2, n_gLt2, n_m1, n_add, n_mul, n_lt, n_le, n_eq, n_cl, n_in, n_rem, n_mlt, n_mle, n_ltm, n_lem, n_eqm, n_meq, n_bit, n_shl, n_b0, n_b1, n_sub, n_inT, nT, nF, lT, lF, eT, eF, not_false_eq_true, not_true_eq_false, sI_at, sI_c, sI_j, aI_at, aI_c, sL_at, sL_c, sL_j, true_and, and_true, not_true_eq_false, not_false_eq_true, forall_const, true_implies, false_implies, implies_true, if_true, if_false, ite_true, ite_false, Bool.not_eq_true, Bool.not_eq_false, Bool.true_eq_false, Bool.false_eq_true, false_and, and_false, or_true, true_or, false_or, or_false]
        exact kk
    · have kk := k b I L (fun _ _ => rfl)
      rw [g3, Bool.false_and] at kk
      simp (disch := first | omega | assumption) only [n_lit, n_gLt, n_gLe, n_gEq, n_gEq2, n_gLe2, n_gLt2, n_m1, n_add, n_mul, n_lt, n_le, n_eq, n_cl, n_in, n_rem, n_mlt, n_mle, n_ltm, n_lem, n_eqm, n_meq, n_bit, n_shl, n_b0, n_b1, n_sub, n_inT, nT, nF, lT, lF, eT, eF, not_false_eq_true, not_true_eq_false, sI_at, sI_c, sI_j, aI_at, aI_c, sL_at, sL_c, sL_j, true_and, and_true, not_true_eq_false, not_false_eq_true, forall_const, true_implies, false_implies, implies_true, if_true, if_false, ite_true, ite_false, Bool.not_eq_true, Bool.not_eq_false, Bool.true_eq_false, Bool.false_eq_true, false_and, and_false, or_true, true_or, false_or, or_false] at kk
      simp (disch := first | omega | assumption) only [n_lit, n_gLt, n_gLe, n_gEq, n_gEq2, n_gLe2, n_gLt2, n_m1, n_add, n_mul, n_lt, n_le, n_eq, n_cl, n_in, n_rem, n_mlt, n_mle, n_ltm, n_lem, n_eqm, n_meq, n_bit, n_shl, n_b0, n_b1, n_sub, n_inT, nT, nF, lT, lF, eT, eF, not_false_eq_true, not_true_eq_false, sI_at, sI_c, sI_j, aI_at, aI_c, sL_at, sL_c, sL_j, true_and, and_true, not_true_eq_false, not_false_eq_true, forall_const, true_implies, false_implies, implies_true, if_true, if_false, ite_true, ite_false, Bool.not_eq_true, Bool.not_eq_false, Bool.true_eq_false, Bool.false_eq_true, false_and, and_false, or_true, true_or, false_or, or_false]
      exact kk
