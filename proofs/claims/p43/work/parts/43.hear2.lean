/-! ONE HEARS -/
/-- what a person's hearing leaves -/
theorem c_hear {w : Wd} {d i : Nat} (hd : d ≤ 200) {b : Bool} {I : MI} {L : ML} {K : Bool → MI → ML → Prop} (h : WL w I L) (hi : i < w.v.n) (hc0 : I 170 (d * 16 + i) = nI (camS w d (stp w d) 0 i)) (hc1 : I 176 (d * 16 + i) = nI (camS w d (stp w d) 1 i)) (H : hrdP w d i I) (hK : ∀ I', (∀ a, a ≠ 167 → a ≠ 173 → a ≠ 178 → I' a = I a) → (∀ a j, a = 167 ∨ a = 173 → j ≠ d → I' a j = I a j) → (∀ j, j ≠ d * 16 + i → I' 178 j = I 178 j) → hrdP w d (i + 1) I' → K b I' L) : CV m_Run_hear [vr 14 153, vi (nI d), vi (nI i)] b I L K := by
  have ok := h.vil.2
  have hn := ok.1.2
  have e := (h.vil.1.2.1 i (by omega)).1
  have hk5 := (ok.2.2.2.2.2.1 i (by omega)).1
  have hw := hrd_le h (s := 0) (by decide) d i
  have hx := hrd_le h (s := 1) (by decide) d i
  obtain ⟨a, ha⟩ : ∃ a, hrdS w d (stp w d) 0 i = a := ⟨_, rfl⟩
  obtain ⟨c, hc⟩ : ∃ c, hrdS w d (stp w d) 1 i = c := ⟨_, rfl⟩
  rw [ha] at hw
  rw [hc] at hx
  have hT : tkS w d (stp w d) i = takes (w.v.kd i) ((stp w d).ha 0 i) ((stp w d).ha 1 i) ((stp w d).su i) a c := by
    unfold tkS
    rw [ha, hc]
  have b0 : bt (I 167 d) i = (stp w d).ha 0 i := by
    rw [H.1 i (by omega), if_neg (by omega), decide_eq_true hi, Bool.true_and]
  have b1 : bt (I 173 d) i = (stp w d).ha 1 i := by
    rw [H.2.1 i (by omega), if_neg (by omega), decide_eq_true hi, Bool.true_and]
  have es : I 178 (d * 16 + i) = zI ((stp w d).su i) := by
    rw [H.2.2 i (by omega), if_pos hi, if_neg (by omega)]
  have hmo := most_stp w i d
  refine v_Run_hear_0 ?_
  refine c_hears (s := 0) (Or.inl ⟨rfl, rfl⟩) hd h hi hc0 ?_
  refine c_hears (s := 1) (Or.inr ⟨rfl, rfl⟩) hd h hi hc1 ?_
  rw [ha, hc]
  -- nothing comes: nothing changes
  have none : a = 0 → c = 0 → K b I L := by
    rintro rfl rfl
    refine hK I (fun _ _ _ _ => rfl) (fun _ _ _ _ => rfl) (fun _ _ => rfl) (hrd_next hi hn H (fun p hp => ?_) (fun p hp => ?_) (fun p hp => ?_))
    all_goals
      have hT' : tkS w d (stp w d) i = ((stp w d).ha 0 i, (stp w d).ha 1 i, (stp w d).su i) := by
        rw [hT]
        unfold mostOK at hmo
        rcases (by omega : w.v.kd i = 0 ∨ w.v.kd i = 1 ∨ w.v.kd i = 2 ∨ w.v.kd i = 3 ∨ w.v.kd i = 4 ∨ w.v.kd i = 5) with k | k | k | k | k | k
        · rw [k, tk_0, if_pos (Or.inr (Or.inr rfl))]
        · rw [k, tk_1, if_neg (by omega), if_neg (by omega)]
        · have hcl : clampI ((stp w d).su i + (0 : Nat) - (0 : Nat)) = (stp w d).su i := by
            unfold clampI
            rw [if_neg (by have := hmo.1; omega), if_neg (by have := hmo.1; omega)]
            omega
          rw [k, tk_2, hcl]
          obtain ⟨m1, m2⟩ := hmo.2 k
          by_cases g1 : 0 < (stp w d).su i
          · rw [if_pos g1, (m1 g1).1, (m1 g1).2]
          · rw [if_neg g1]
            by_cases g2 : (stp w d).su i < 0
            · rw [if_pos g2, (m2 g2).1, (m2 g2).2]
            · rw [if_neg g2]
        · rw [k, tk_3, if_neg (by omega)]
          split
          · rfl
          · rw [if_neg (by omega)]
        · rw [k, tk_4, decide_eq_false (by omega), Bool.or_false, Bool.or_false]
        · rw [k, tk_5, if_pos (Or.inr (Or.inr rfl))]
      rw [hT']
      by_cases q : p = i
      · subst q
        rw [if_pos rfl]
        first | exact b0 | exact b1 | exact es
      · rw [if_neg q]
  -- of BOTH
  have kboth : w.v.kd i = 4 → ∀ (I0 I1 : Int32), (∀ p, p < 32 → bt I0 p = if p = i then ((stp w d).ha 0 i || decide (0 < a)) else bt (I 167 d) p) → (∀ p, p < 32 → bt I1 p = if p = i then ((stp w d).ha 1 i || decide (0 < c)) else bt (I 173 d) p) → K b (sI (sI I 167 d I0) 173 d I1) L := by
    intro k I0 I1 h0 h1
    refine hK _ (fun a q1 q2 q3 => ?_) (fun a j q1 q2 => ?_) (fun j q => ?_) (hrd_next hi hn H (fun p hp => ?_) (fun p hp => ?_) (fun p hp => ?_))
    · simp (disch := first | omega | assumption) only [sI_at, sI_c, sI_j, aI_at, aI_c, sL_at, sL_c, sL_j]
    · rcases q1 with rfl | rfl
      · simp (disch := first | omega | assumption) only [sI_at, sI_c, sI_j, aI_at, aI_c, sL_at, sL_c, sL_j]
      · simp (disch := first | omega | assumption) only [sI_at, sI_c, sI_j, aI_at, aI_c, sL_at, sL_c, sL_j]
    · simp (disch := first | omega | assumption) only [sI_at, sI_c, sI_j, aI_at, aI_c, sL_at, sL_c, sL_j]
    · simp (disch := first | omega | assumption) only [sI_at, sI_c, sI_j, aI_at, aI_c, sL_at, sL_c, sL_j]
      rw [h0 p hp, hT, k, tk_4]
    · simp (disch := first | omega | assumption) only [sI_at, sI_c, sI_j, aI_at, aI_c, sL_at, sL_c, sL_j]
      rw [h1 p hp, hT, k, tk_4]
    · simp (disch := first | omega | assumption) only [sI_at, sI_c, sI_j, aI_at, aI_c, sL_at, sL_c, sL_j]
      rw [hT, k, tk_4]
      by_cases q : p = i
      · subst q; rw [if_pos rfl]; exact es
      · rw [if_neg q]
  -- who leans
  have klean : ∀ v : Int, (v = 0 → (takes (w.v.kd i) ((stp w d).ha 0 i) ((stp w d).ha 1 i) ((stp w d).su i) a c).1 = (stp w d).ha 0 i ∧ (takes (w.v.kd i) ((stp w d).ha 0 i) ((stp w d).ha 1 i) ((stp w d).su i) a c).2.1 = (stp w d).ha 1 i) → v = 0 → K b (sI I 178 (d * 16 + i) (zI (takes (w.v.kd i) ((stp w d).ha 0 i) ((stp w d).ha 1 i) ((stp w d).su i) a c).2.2)) L := by
    intro v h1 h2
    obtain ⟨g1, g2⟩ := h1 h2
    refine hK _ (fun a q1 q2 q3 => ?_) (fun a j q1 q2 => ?_) (fun j q => ?_) (hrd_next hi hn H (fun p hp => ?_) (fun p hp => ?_) (fun p hp => ?_))
    · simp (disch := first | omega | assumption) only [sI_at, sI_c, sI_j, aI_at, aI_c, sL_at, sL_c, sL_j]
    · rcases q1 with rfl | rfl
      · simp (disch := first | omega | assumption) only [sI_at, sI_c, sI_j, aI_at, aI_c, sL_at, sL_c, sL_j]
      · simp (disch := first | omega | assumption) only [sI_at, sI_c, sI_j, aI_at, aI_c, sL_at, sL_c, sL_j]
    · simp (disch := first | omega | assumption) only [sI_at, sI_c, sI_j, aI_at, aI_c, sL_at, sL_c, sL_j]
    · simp (disch := first | omega | assumption) only [sI_at, sI_c, sI_j, aI_at, aI_c, sL_at, sL_c, sL_j]
      rw [hT, g1]
      by_cases q : p = i
      · subst q; rw [if_pos rfl]; exact b0
      · rw [if_neg q]
    · simp (disch := first | omega | assumption) only [sI_at, sI_c, sI_j, aI_at, aI_c, sL_at, sL_c, sL_j]
      rw [hT, g2]
      by_cases q : p = i
      · subst q; rw [if_pos rfl]; exact b1
      · rw [if_neg q]
    · rw [hT]
      by_cases q : p = i
      · subst q; rw [if_pos rfl, sI_at]
      · rw [if_neg q, sI_j (by omega)]
  have kword : ∀ (I0 I1 : Int32), (∀ p, p < 32 → bt I0 p = if p = i then (takes (w.v.kd i) ((stp w d).ha 0 i) ((stp w d).ha 1 i) ((stp w d).su i) a c).1 else bt (I 167 d) p) → (∀ p, p < 32 → bt I1 p = if p = i then (takes (w.v.kd i) ((stp w d).ha 0 i) ((stp w d).ha 1 i) ((stp w d).su i) a c).2.1 else bt (I 173 d) p) → K b (sI (sI (sI I 178 (d * 16 + i) (zI (takes (w.v.kd i) ((stp w d).ha 0 i) ((stp w d).ha 1 i) ((stp w d).su i) a c).2.2)) 167 d I0) 173 d I1) L := by
    intro I0 I1 h0 h1
    refine hK _ (fun a q1 q2 q3 => ?_) (fun a j q1 q2 => ?_) (fun j q => ?_) (hrd_next hi hn H (fun p hp => ?_) (fun p hp => ?_) (fun p hp => ?_))
    · simp (disch := first | omega | assumption) only [sI_at, sI_c, sI_j, aI_at, aI_c, sL_at, sL_c, sL_j]
    · rcases q1 with rfl | rfl
      · simp (disch := first | omega | assumption) only [sI_at, sI_c, sI_j, aI_at, aI_c, sL_at, sL_c, sL_j]
      · simp (disch := first | omega | assumption) only [sI_at, sI_c, sI_j, aI_at, aI_c, sL_at, sL_c, sL_j]
    · simp (disch := first | omega | assumption) only [sI_at, sI_c, sI_j, aI_at, aI_c, sL_at, sL_c, sL_j]
    · simp (disch := first | omega | assumption) only [sI_at, sI_c, sI_j, aI_at, aI_c, sL_at, sL_c, sL_j]
      rw [hT]; exact h0 p hp
    · simp (disch := first | omega | assumption) only [sI_at, sI_c, sI_j, aI_at, aI_c, sL_at, sL_c, sL_j]
      rw [hT]; exact h1 p hp
    · simp (disch := first | omega | assumption) only [sI_at, sI_c, sI_j, aI_at, aI_c, sL_at, sL_c, sL_j]
      rw [hT]
      by_cases q : p = i
      · subst q; rw [if_pos rfl, sI_at]
      · rw [if_neg q, sI_j (by omega)]
  by_cases z0 : a = 0 ∧ c = 0
  · obtain ⟨rfl, rfl⟩ := z0
    simp (disch := first | omega | assumption) only [n_lit, n_gLt, n_gLe, n_gEq, n_gEq2, n_gLe2, n_gLt2, n_m1, n_add, n_mul, n_lt, n_le, n_eq, n_cl, n_in, n_rem, n_mlt, n_mle, n_ltm, n_lem, n_eqm, n_meq, n_bit, n_shl, n_b0, n_b1, n_sub, n_inT, nT, nF, lT, lF, eT, eF, not_false_eq_true, not_true_eq_false, sI_at, sI_c, sI_j, aI_at, aI_c, sL_at, sL_c, sL_j, true_and, and_true, not_true_eq_false, not_false_eq_true, forall_const, true_implies, false_implies, implies_true, if_true, if_false, ite_true, ite_false, Bool.not_eq_true, Bool.not_eq_false, Bool.true_eq_false, Bool.false_eq_true, false_and, and_false, or_true, true_or, false_or, or_false]
    exact none rfl rfl
  · by_cases k4 : w.v.kd i = 4
    · have e := e.trans (congrArg nI k4)
      by_cases za : a = 0
      · subst za
        simp (disch := first | omega | assumption) only [n_lit, n_gLt, n_gLe, n_gEq, n_gEq2, n_gLe2, n_gLt2, n_m1, n_add, n_mul, n_lt, n_le, n_eq, n_cl, n_in, n_rem, n_mlt, n_mle, n_ltm, n_lem, n_eqm, n_meq, n_bit, n_shl, n_b0, n_b1, n_sub, n_inT, nT, nF, lT, lF, eT, eF, not_false_eq_true, not_true_eq_false, sI_at, sI_c, sI_j, aI_at, aI_c, sL_at, sL_c, sL_j, true_and, and_true, not_true_eq_false, not_false_eq_true, forall_const, true_implies, false_implies, implies_true, if_true, if_false, ite_true, ite_false, Bool.not_eq_true, Bool.not_eq_false, Bool.true_eq_false, Bool.false_eq_true, false_and, and_false, or_true, true_or, false_or, or_false, e]
        refine kboth k4 _ _ (fun p hp => ?_) (fun p hp => ?_)
        · rw [b_or0]
          by_cases q : p = i
          · subst q; rw [if_pos rfl, decide_eq_false (by omega), Bool.or_false]; exact b0
          · rw [if_neg q]
        · rw [b_set hp]
          by_cases q : p = i
          · subst q; rw [if_pos rfl, if_pos rfl, decide_eq_true (by omega), Bool.or_true]
          · rw [if_neg q, if_neg q]
      · by_cases zc : c = 0
        · subst zc
          simp (disch := first | omega | assumption) only [n_lit, n_gLt, n_gLe, n_gEq, n_gEq2, n_gLe2, n_gLt2, n_m1, n_add, n_mul, n_lt, n_le, n_eq, n_cl, n_in, n_rem, n_mlt, n_mle, n_ltm, n_lem, n_eqm, n_meq, n_bit, n_shl, n_b0, n_b1, n_sub, n_inT, nT, nF, lT, lF, eT, eF, not_false_eq_true, not_true_eq_false, sI_at, sI_c, sI_j, aI_at, aI_c, sL_at, sL_c, sL_j, true_and, and_true, not_true_eq_false, not_false_eq_true, forall_const, true_implies, false_implies, implies_true, if_true, if_false, ite_true, ite_false, Bool.not_eq_true, Bool.not_eq_false, Bool.true_eq_false, Bool.false_eq_true, false_and, and_false, or_true, true_or, false_or, or_false, e]
          refine kboth k4 _ _ (fun p hp => ?_) (fun p hp => ?_)
          · rw [b_set hp]
            by_cases q : p = i
            · subst q; rw [if_pos rfl, if_pos rfl, decide_eq_true (by omega), Bool.or_true]
            · rw [if_neg q, if_neg q]
          · rw [b_or0]
            by_cases q : p = i
            · subst q; rw [if_pos rfl, decide_eq_false (by omega), Bool.or_false]; exact b1
            · rw [if_neg q]
        · simp (disch := first | omega | assumption) only [n_lit, n_gLt, n_gLe, n_gEq, n_gEq2, n_gLe2, n_gLt2, n_m1, n_add, n_mul, n_lt, n_le, n_eq, n_cl, n_in, n_rem, n_mlt, n_mle, n_ltm, n_lem, n_eqm, n_meq, n_bit, n_shl, n_b0, n_b1, n_sub, n_inT, nT, nF, lT, lF, eT, eF, not_false_eq_true, not_true_eq_false, sI_at, sI_c, sI_j, aI_at, aI_c, sL_at, sL_c, sL_j, true_and, and_true, not_true_eq_false, not_false_eq_true, forall_const, true_implies, false_implies, implies_true, if_true, if_false, ite_true, ite_false, Bool.not_eq_true, Bool.not_eq_false, Bool.true_eq_false, Bool.false_eq_true, false_and, and_false, or_true, true_or, false_or, or_false, e]
          refine kboth k4 _ _ (fun p hp => ?_) (fun p hp => ?_)
          · rw [b_set hp]
            by_cases q : p = i
            · subst q; rw [if_pos rfl, if_pos rfl, decide_eq_true (by omega), Bool.or_true]
            · rw [if_neg q, if_neg q]
          · rw [b_set hp]
            by_cases q : p = i
            · subst q; rw [if_pos rfl, if_pos rfl, decide_eq_true (by omega), Bool.or_true]
            · rw [if_neg q, if_neg q]
    · have lean : ∀ K' : Int32 → Bool → MI → ML → Prop, (∀ v : Int, -1000 ≤ v → v ≤ 1000 → (v = 0 → K b (sI I 178 (d * 16 + i) (zI (takes (w.v.kd i) ((stp w d).ha 0 i) ((stp w d).ha 1 i) ((stp w d).su i) a c).2.2)) L) → (0 < v → (takes (w.v.kd i) ((stp w d).ha 0 i) ((stp w d).ha 1 i) ((stp w d).su i) a c).1 = true ∧ (takes (w.v.kd i) ((stp w d).ha 0 i) ((stp w d).ha 1 i) ((stp w d).su i) a c).2.1 = false) → (v < 0 → (takes (w.v.kd i) ((stp w d).ha 0 i) ((stp w d).ha 1 i) ((stp w d).su i) a c).1 = false ∧ (takes (w.v.kd i) ((stp w d).ha 0 i) ((stp w d).ha 1 i) ((stp w d).su i) a c).2.1 = true) → K' (zI v) b (sI I 178 (d * 16 + i) (zI (takes (w.v.kd i) ((stp w d).ha 0 i) ((stp w d).ha 1 i) ((stp w d).su i) a c).2.2)) L) → CI m_Run_lean [vr 14 153, vi (nI d), vi (nI i), vi (nI a), vi (nI c)] b I L K' := fun K' k => c_lean hd h hi hw hx z0 k4 hmo b0 b1 es (fun v v1 v2 v3 v4 v5 => k v v1 v2 (klean v v3) v4 v5)
      have e4 : ¬ nI (w.v.kd i) = nI 4 := by rw [n_eq (by omega) (by omega)]; exact k4
      by_cases za : a = 0
      · have zc : c ≠ 0 := fun q => z0 ⟨za, q⟩
        subst za
        simp (disch := first | omega | assumption) only [n_lit, n_gLt, n_gLe, n_gEq, n_gEq2, n_gLe2, n_gLt2, n_m1, n_add, n_mul, n_lt, n_le, n_eq, n_cl, n_in, n_rem, n_mlt, n_mle, n_ltm, n_lem, n_eqm, n_meq, n_bit, n_shl, n_b0, n_b1, n_sub, n_inT, nT, nF, lT, lF, eT, eF, not_false_eq_true, not_true_eq_false, sI_at, sI_c, sI_j, aI_at, aI_c, sL_at, sL_c, sL_j, true_and, and_true, not_true_eq_false, not_false_eq_true, forall_const, true_implies, false_implies, implies_true, if_true, if_false, ite_true, ite_false, Bool.not_eq_true, Bool.not_eq_false, Bool.true_eq_false, Bool.false_eq_true, false_and, and_false, or_true, true_or, false_or, or_false, e, e4]
        refine lean _ (fun v v1 v2 v3 v4 v5 => ?_)
        have hz : (nI 0 : Int32) = zI 0 := rfl
        rcases (by omega : v = 0 ∨ 0 < v ∨ v < 0) with q | q | q
        · have p1 : (zI v = nI 0) = True := by rw [hz, z_eq (by omega) (by omega) (by omega) (by omega)]; exact eq_true q
          simp (disch := first | omega | assumption) only [n_lit, n_gLt, n_gLe, n_gEq, n_gEq2, n_gLe2, n_gLt2, n_m1, n_add, n_mul, n_lt, n_le, n_eq, n_cl, n_in, n_rem, n_mlt, n_mle, n_ltm, n_lem, n_eqm, n_meq, n_bit, n_shl, n_b0, n_b1, n_sub, n_inT, nT, nF, lT, lF, eT, eF, not_false_eq_true, not_true_eq_false, sI_at, sI_c, sI_j, aI_at, aI_c, sL_at, sL_c, sL_j, true_and, and_true, not_true_eq_false, not_false_eq_true, forall_const, true_implies, false_implies, implies_true, if_true, if_false, ite_true, ite_false, Bool.not_eq_true, Bool.not_eq_false, Bool.true_eq_false, Bool.false_eq_true, false_and, and_false, or_true, true_or, false_or, or_false, p1]
          exact v3 q
        · have p1 : (zI v = nI 0) = False := by rw [hz, z_eq (by omega) (by omega) (by omega) (by omega)]; exact eq_false (by omega)
          have p2 : (zI v ≤ nI 0) = False := by rw [hz, z_le (by omega) (by omega) (by omega) (by omega)]; exact eq_false (by omega)
          have p3 : (nI 0 ≤ zI v) = True := by rw [hz, z_le (by omega) (by omega) (by omega) (by omega)]; exact eq_true (by omega)
          simp (disch := first | omega | assumption) only [n_lit, n_gLt, n_gLe, n_gEq, n_gEq2, n_gLe2, n_gLt2, n_m1, n_add, n_mul, n_lt, n_le, n_eq, n_cl, n_in, n_rem, n_mlt, n_mle, n_ltm, n_lem, n_eqm, n_meq, n_bit, n_shl, n_b0, n_b1, n_sub, n_inT, nT, nF, lT, lF, eT, eF, not_false_eq_true, not_true_eq_false, sI_at, sI_c, sI_j, aI_at, aI_c, sL_at, sL_c, sL_j, true_and, and_true, not_true_eq_false, not_false_eq_true, forall_const, true_implies, false_implies, implies_true, if_true, if_false, ite_true, ite_false, Bool.not_eq_true, Bool.not_eq_false, Bool.true_eq_false, Bool.false_eq_true, false_and, and_false, or_true, true_or, false_or, or_false, p1, p2, p3]
          refine kword _ _ (fun p hp => ?_) (fun p hp => ?_)
          · rw [b_clear (by omega) hp, b_2p hp]
            by_cases q2 : p = i
            · subst q2; rw [if_pos rfl, if_pos rfl, decide_eq_true rfl, (v4 q).1]
            · rw [if_neg q2, if_neg q2, decide_eq_false (fun q3 => q2 q3.symm), Bool.or_false]
          · rw [b_clear (by omega) hp, b_0]
            by_cases q2 : p = i
            · subst q2; rw [if_pos rfl, if_pos rfl, (v4 q).2]
            · rw [if_neg q2, if_neg q2, Bool.or_false]
        · have p1 : (zI v = nI 0) = False := by rw [hz, z_eq (by omega) (by omega) (by omega) (by omega)]; exact eq_false (by omega)
          have p2 : (zI v ≤ nI 0) = True := by rw [hz, z_le (by omega) (by omega) (by omega) (by omega)]; exact eq_true (by omega)
          have p3 : (nI 0 ≤ zI v) = False := by rw [hz, z_le (by omega) (by omega) (by omega) (by omega)]; exact eq_false (by omega)
          simp (disch := first | omega | assumption) only [n_lit, n_gLt, n_gLe, n_gEq, n_gEq2, n_gLe2, n_gLt2, n_m1, n_add, n_mul, n_lt, n_le, n_eq, n_cl, n_in, n_rem, n_mlt, n_mle, n_ltm, n_lem, n_eqm, n_meq, n_bit, n_shl, n_b0, n_b1, n_sub, n_inT, nT, nF, lT, lF, eT, eF, not_false_eq_true, not_true_eq_false, sI_at, sI_c, sI_j, aI_at, aI_c, sL_at, sL_c, sL_j, true_and, and_true, not_true_eq_false, not_false_eq_true, forall_const, true_implies, false_implies, implies_true, if_true, if_false, ite_true, ite_false, Bool.not_eq_true, Bool.not_eq_false, Bool.true_eq_false, Bool.false_eq_true, false_and, and_false, or_true, true_or, false_or, or_false, p1, p2, p3]
          refine kword _ _ (fun p hp => ?_) (fun p hp => ?_)
          · rw [b_clear (by omega) hp, b_0]
            by_cases q2 : p = i
            · subst q2; rw [if_pos rfl, if_pos rfl, (v5 q).1]
            · rw [if_neg q2, if_neg q2, Bool.or_false]
          · rw [b_clear (by omega) hp, b_2p hp]
            by_cases q2 : p = i
            · subst q2; rw [if_pos rfl, if_pos rfl, decide_eq_true rfl, (v5 q).2]
            · rw [if_neg q2, if_neg q2, decide_eq_false (fun q3 => q2 q3.symm), Bool.or_false]
      · simp (disch := first | omega | assumption) only [n_lit, n_gLt, n_gLe, n_gEq, n_gEq2, n_gLe2, n_gLt2, n_m1, n_add, n_mul, n_lt, n_le, n_eq, n_cl, n_in, n_rem, n_mlt, n_mle, n_ltm, n_lem, n_eqm, n_meq, n_bit, n_shl, n_b0, n_b1, n_sub, n_inT, nT, nF, lT, lF, eT, eF, not_false_eq_true, not_true_eq_false, sI_at, sI_c, sI_j, aI_at, aI_c, sL_at, sL_c, sL_j, true_and, and_true, not_true_eq_false, not_false_eq_true, forall_const, true_implies, false_implies, implies_true, if_true, if_false, ite_true, ite_false, Bool.not_eq_true, Bool.not_eq_false, Bool.true_eq_false, Bool.false_eq_true, false_and, and_false, or_true, true_or, false_or, or_false, e, e4]
        refine lean _ (fun v v1 v2 v3 v4 v5 => ?_)
        have hz : (nI 0 : Int32) = zI 0 := rfl
        rcases (by omega : v = 0 ∨ 0 < v ∨ v < 0) with q | q | q
        · have p1 : (zI v = nI 0) = True := by rw [hz, z_eq (by omega) (by omega) (by omega) (by omega)]; exact eq_true q
          simp (disch := first | omega | assumption) only [n_lit, n_gLt, n_gLe, n_gEq, n_gEq2, n_gLe2, n_gLt2, n_m1, n_add, n_mul, n_lt, n_le, n_eq, n_cl, n_in, n_rem, n_mlt, n_mle, n_ltm, n_lem, n_eqm, n_meq, n_bit, n_shl, n_b0, n_b1, n_sub, n_inT, nT, nF, lT, lF, eT, eF, not_false_eq_true, not_true_eq_false, sI_at, sI_c, sI_j, aI_at, aI_c, sL_at, sL_c, sL_j, true_and, and_true, not_true_eq_false, not_false_eq_true, forall_const, true_implies, false_implies, implies_true, if_true, if_false, ite_true, ite_false, Bool.not_eq_true, Bool.not_eq_false, Bool.true_eq_false, Bool.false_eq_true, false_and, and_false, or_true, true_or, false_or, or_false, p1]
          exact v3 q
        · have p1 : (zI v = nI 0) = False := by rw [hz, z_eq (by omega) (by omega) (by omega) (by omega)]; exact eq_false (by omega)
          have p2 : (zI v ≤ nI 0) = False := by rw [hz, z_le (by omega) (by omega) (by omega) (by omega)]; exact eq_false (by omega)
          have p3 : (nI 0 ≤ zI v) = True := by rw [hz, z_le (by omega) (by omega) (by omega) (by omega)]; exact eq_true (by omega)
          simp (disch := first | omega | assumption) only [n_lit, n_gLt, n_gLe, n_gEq, n_gEq2, n_gLe2, n_gLt2, n_m1, n_add, n_mul, n_lt, n_le, n_eq, n_cl, n_in, n_rem, n_mlt, n_mle, n_ltm, n_lem, n_eqm, n_meq, n_bit, n_shl, n_b0, n_b1, n_sub, n_inT, nT, nF, lT, lF, eT, eF, not_false_eq_true, not_true_eq_false, sI_at, sI_c, sI_j, aI_at, aI_c, sL_at, sL_c, sL_j, true_and, and_true, not_true_eq_false, not_false_eq_true, forall_const, true_implies, false_implies, implies_true, if_true, if_false, ite_true, ite_false, Bool.not_eq_true, Bool.not_eq_false, Bool.true_eq_false, Bool.false_eq_true, false_and, and_false, or_true, true_or, false_or, or_false, p1, p2, p3]
          refine kword _ _ (fun p hp => ?_) (fun p hp => ?_)
          · rw [b_clear (by omega) hp, b_2p hp]
            by_cases q2 : p = i
            · subst q2; rw [if_pos rfl, if_pos rfl, decide_eq_true rfl, (v4 q).1]
            · rw [if_neg q2, if_neg q2, decide_eq_false (fun q3 => q2 q3.symm), Bool.or_false]
          · rw [b_clear (by omega) hp, b_0]
            by_cases q2 : p = i
            · subst q2; rw [if_pos rfl, if_pos rfl, (v4 q).2]
            · rw [if_neg q2, if_neg q2, Bool.or_false]
        · have p1 : (zI v = nI 0) = False := by rw [hz, z_eq (by omega) (by omega) (by omega) (by omega)]; exact eq_false (by omega)
          have p2 : (zI v ≤ nI 0) = True := by rw [hz, z_le (by omega) (by omega) (by omega) (by omega)]; exact eq_true (by omega)
          have p3 : (nI 0 ≤ zI v) = False := by rw [hz, z_le (by omega) (by omega) (by omega) (by omega)]; exact eq_false (by omega)
          simp (disch := first | omega | assumption) only [n_lit, n_gLt, n_gLe, n_gEq, n_gEq2, n_gLe2, n_gLt2, n_m1, n_add, n_mul, n_lt, n_le, n_eq, n_cl, n_in, n_rem, n_mlt, n_mle, n_ltm, n_lem, n_eqm, n_meq, n_bit, n_shl, n_b0, n_b1, n_sub, n_inT, nT, nF, lT, lF, eT, eF, not_false_eq_true, not_true_eq_false, sI_at, sI_c, sI_j, aI_at, aI_c, sL_at, sL_c, sL_j, true_and, and_true, not_true_eq_false, not_false_eq_true, forall_const, true_implies, false_implies, implies_true, if_true, if_false, ite_true, ite_false, Bool.not_eq_true, Bool.not_eq_false, Bool.true_eq_false, Bool.false_eq_true, false_and, and_false, or_true, true_or, false_or, or_false, p1, p2, p3]
          refine kword _ _ (fun p hp => ?_) (fun p hp => ?_)
          · rw [b_clear (by omega) hp, b_0]
            by_cases q2 : p = i
            · subst q2; rw [if_pos rfl, if_pos rfl, (v5 q).1]
            · rw [if_neg q2, if_neg q2, Bool.or_false]
          · rw [b_clear (by omega) hp, b_2p hp]
            by_cases q2 : p = i
            · subst q2; rw [if_pos rfl, if_pos rfl, decide_eq_true rfl, (v5 q).2]
            · rw [if_neg q2, if_neg q2, decide_eq_false (fun q3 => q2 q3.symm), Bool.or_false]
