/-! WHAT ONE HEARS, AND HAS THEN -/
theorem z_nat (a : Nat) : nI a = zI (a : Int) := Int32.ofInt_eq_ofNat.symm
theorem z_add (a c : Int) : zI a + zI c = zI (a + c) := (Int32.ofInt_add a c).symm
theorem z_sub (a c : Int) : zI a - zI c = zI (a - c) := (Int32.ofInt_sub a c).symm
theorem z_neg (a : Int) : -zI a = zI (-a) := (Int32.ofInt_neg a).symm
theorem z_int {a : Int} (h1 : -1000000 ≤ a) (h2 : a ≤ 1000000) : (zI a).toInt = a := Int32.toInt_ofInt_of_le (by omega) (by omega)
theorem z_lt {a c : Int} (h1 : -1000000 ≤ a) (h2 : a ≤ 1000000) (h3 : -1000000 ≤ c) (h4 : c ≤ 1000000) : (zI a < zI c) = (a < c) := by
  rw [Int32.lt_iff_toInt_lt, z_int h1 h2, z_int h3 h4]
theorem z_le {a c : Int} (h1 : -1000000 ≤ a) (h2 : a ≤ 1000000) (h3 : -1000000 ≤ c) (h4 : c ≤ 1000000) : (zI a ≤ zI c) = (a ≤ c) := by
  rw [Int32.le_iff_toInt_le, z_int h1 h2, z_int h3 h4]
theorem z_eq {a c : Int} (h1 : -1000000 ≤ a) (h2 : a ≤ 1000000) (h3 : -1000000 ≤ c) (h4 : c ≤ 1000000) : (zI a = zI c) = (a = c) := by
  apply propext
  constructor
  · intro h
    have := congrArg Int32.toInt h
    rw [z_int h1 h2, z_int h3 h4] at this
    exact this
  · rintro rfl; rfl
theorem sI_id {I : MI} {k j : Nat} {v : Int32} (h : I k j = v) : sI I k j v = I := by
  funext a c
  unfold sI
  split
  · split
    · rename_i h1 h2
      rw [h1, h2, h]
    · rfl
  · rfl
theorem c_hears {w : Wd} {s d r p : Nat} (hr : isR s r) (hd : d ≤ 200) {b : Bool} {I : MI} {L : ML} {K : Int32 → Bool → MI → ML → Prop} (h : WL w I L) (hp : p < w.v.n) (hc : I (r + 4) (d * 16 + p) = nI (camS w d (stp w d) s p)) (hK : K (nI (hrdS w d (stp w d) s p)) b I L) : CI m_Run_hears [vr 14 153, vi (nI d), vi (nI p), vi (nI s)] b I L K := by
  have ok := h.vil.2
  have hn := ok.1.2
  have hs : s < 2 := by rcases hr with ⟨h, _⟩ | ⟨h, _⟩ <;> omega
  have e := (h.vil.1.2.1 p (by omega)).2
  have hdb := (ok.2.2.2.2.2.1 p (by omega)).2.2
  have hcm := cam_le h hs d p
  refine v_Run_hears_0 (c_side hr ?_)
  unfold hrdS at hK
  by_cases c : camS w d (stp w d) s p < w.v.db p
  · rw [if_pos c] at hK
    simp (disch := first | omega | assumption) only [n_lit, n_gLt, n_gLe, n_gEq, n_gEq2, n_gLe2, n_gLt2, n_m1, n_add, n_mul, n_lt, n_le, n_eq, n_cl, n_in, n_rem, n_mlt, n_mle, n_ltm, n_lem, n_eqm, n_meq, n_bit, n_shl, n_b0, n_b1, n_sub, n_inT, nT, nF, lT, lF, eT, eF, not_false_eq_true, not_true_eq_false, sI_at, sI_c, sI_j, aI_at, aI_c, sL_at, sL_c, sL_j, true_and, and_true, not_true_eq_false, not_false_eq_true, forall_const, true_implies, false_implies, implies_true, if_true, if_false, ite_true, ite_false, Bool.not_eq_true, Bool.not_eq_false, Bool.true_eq_false, Bool.false_eq_true, false_and, and_false, or_true, true_or, false_or, or_false, e, hc]
    exact hK
  · rw [if_neg c] at hK
    simp (disch := first | omega | assumption) only [n_lit, n_gLt, n_gLe, n_gEq, n_gEq2, n_gLe2, n_gLt2, n_m1, n_add, n_mul, n_lt, n_le, n_eq, n_cl, n_in, n_rem, n_mlt, n_mle, n_ltm, n_lem, n_eqm, n_meq, n_bit, n_shl, n_b0, n_b1, n_sub, n_inT, nT, nF, lT, lF, eT, eF, not_false_eq_true, not_true_eq_false, sI_at, sI_c, sI_j, aI_at, aI_c, sL_at, sL_c, sL_j, true_and, and_true, not_true_eq_false, not_false_eq_true, forall_const, true_implies, false_implies, implies_true, if_true, if_false, ite_true, ite_false, Bool.not_eq_true, Bool.not_eq_false, Bool.true_eq_false, Bool.false_eq_true, false_and, and_false, or_true, true_or, false_or, or_false, e, hc]
    exact hK
theorem hrd_le {w : Wd} {I : MI} {L : ML} (h : WL w I L) {s : Nat} (hs : s < 2) (d p : Nat) : hrdS w d (stp w d) s p ≤ 700 := by
  have := cam_le h hs d p
  unfold hrdS
  split <;> omega
theorem bt_or2 {x y : Int32} {p : Nat} (h : p < 32) : (((x ||| y) >>> (nI p &&& nI 31)) &&& nI 1) = nI (bt x p || bt y p).toNat := by rw [n_bit h, b_or]
theorem z_m99 : -zI 99 = zI (-99) := rfl
theorem z_99 : nI 99 = zI 99 := rfl
theorem tk_z {k : Nat} {h0 h1 : Bool} {z : Int} {a c : Nat} (hk : k ≠ 2) : (takes k h0 h1 z a c).2.2 = z := by
  unfold takes
  rw [if_neg (c := k = 2) hk]
  repeat' split
  all_goals rfl
theorem tk_1 (h0 h1 : Bool) (z : Int) (a c : Nat) : takes 1 h0 h1 z a c = (if c < a then (true, false, z) else if a < c then (false, true, z) else (h0, h1, z)) := rfl
theorem tk_2 (h0 h1 : Bool) (z : Int) (a c : Nat) : takes 2 h0 h1 z a c = (if 0 < clampI (z + a - c) then (true, false, clampI (z + a - c)) else if clampI (z + a - c) < 0 then (false, true, clampI (z + a - c)) else (h0, h1, clampI (z + a - c))) := rfl
theorem tk_3 (h0 h1 : Bool) (z : Int) (a c : Nat) : takes 3 h0 h1 z a c = (if 0 < c then (false, true, z) else if h0 = true ∨ h1 = true then (h0, h1, z) else if 0 < a then (true, false, z) else (h0, h1, z)) := rfl
theorem tk_4 (h0 h1 : Bool) (z : Int) (a c : Nat) : takes 4 h0 h1 z a c = (h0 || decide (0 < a), h1 || decide (0 < c), z) := rfl
theorem tk_0 (h0 h1 : Bool) (z : Int) (a c : Nat) : takes 0 h0 h1 z a c = (if h0 = true ∨ h1 = true ∨ a + c = 0 then (h0, h1, z) else if c ≤ a then (true, false, z) else (false, true, z)) := rfl
theorem tk_5 (h0 h1 : Bool) (z : Int) (a c : Nat) : takes 5 h0 h1 z a c = (if h0 = true ∨ h1 = true ∨ a + c = 0 then (h0, h1, z) else if c ≤ a then (true, false, z) else (false, true, z)) := rfl
theorem tk_2z (h0 h1 : Bool) (z : Int) (a c : Nat) : (takes 2 h0 h1 z a c).2.2 = clampI (z + a - c) := by
  rw [tk_2]
  repeat' split
  all_goals rfl
/-- which way one leans -/
theorem c_lean {w : Wd} {d p a c : Nat} {h0 h1 : Bool} {z : Int} (hd : d ≤ 200) {b : Bool} {I : MI} {L : ML} {K : Int32 → Bool → MI → ML → Prop} (h : WL w I L) (hp : p < w.v.n) (ha : a ≤ 700) (hc : c ≤ 700) (hac : ¬ (a = 0 ∧ c = 0)) (hk : w.v.kd p ≠ 4) (hz : mostOK (w.v.kd p) h0 h1 z) (e0 : bt (I 167 d) p = h0) (e1 : bt (I 173 d) p = h1) (es : I 178 (d * 16 + p) = zI z) (hK : ∀ v : Int, -1000 ≤ v → v ≤ 1000 → (v = 0 → (takes (w.v.kd p) h0 h1 z a c).1 = h0 ∧ (takes (w.v.kd p) h0 h1 z a c).2.1 = h1) → (0 < v → (takes (w.v.kd p) h0 h1 z a c).1 = true ∧ (takes (w.v.kd p) h0 h1 z a c).2.1 = false) → (v < 0 → (takes (w.v.kd p) h0 h1 z a c).1 = false ∧ (takes (w.v.kd p) h0 h1 z a c).2.1 = true) → K (zI v) b (sI I 178 (d * 16 + p) (zI (takes (w.v.kd p) h0 h1 z a c).2.2)) L) : CI m_Run_lean [vr 14 153, vi (nI d), vi (nI p), vi (nI a), vi (nI c)] b I L K := by
  have ok := h.vil.2
  have hn := ok.1.2
  have e := (h.vil.1.2.1 p (by omega)).1
  have hk5 := (ok.2.2.2.2.2.1 p (by omega)).1
  refine v_Run_lean_0 ?_
  have hcl := clampI_le (z + a - c)
  have hbb : ∃ hb, (h0 || h1) = hb := ⟨_, rfl⟩
  rcases (by omega : w.v.kd p = 0 ∨ w.v.kd p = 1 ∨ w.v.kd p = 2 ∨ w.v.kd p = 3 ∨ w.v.kd p = 5) with k | k | k | k | k
  · have hz : (nI 0 : Int32) = zI 0 := rfl
    have hz1 : (nI 1 : Int32) = zI 1 := rfl
    have hzm : nM = zI (-1) := rfl
    rw [tk_z (by omega), sI_id es, k] at hK
    by_cases hh : h0 = true ∨ h1 = true
    · have hb : (h0 || h1) = true := by rw [Bool.or_eq_true]; exact hh
      have := hK 0 (by omega) (by omega) (fun _ => by rw [tk_0, if_pos (hh.elim Or.inl (fun q => Or.inr (Or.inl q)))]; exact ⟨rfl, rfl⟩) (fun q => by omega) (fun q => by omega)
      simp (disch := first | omega | assumption) only [n_lit, n_gLt, n_gLe, n_gEq, n_gEq2, n_gLe2, n_gLt2, n_m1, n_add, n_mul, n_lt, n_le, n_eq, n_cl, n_in, n_rem, n_mlt, n_mle, n_ltm, n_lem, n_eqm, n_meq, n_bit, n_shl, n_b0, n_b1, n_sub, n_inT, nT, nF, lT, lF, eT, eF, not_false_eq_true, not_true_eq_false, sI_at, sI_c, sI_j, aI_at, aI_c, sL_at, sL_c, sL_j, true_and, and_true, not_true_eq_false, not_false_eq_true, forall_const, true_implies, false_implies, implies_true, if_true, if_false, ite_true, ite_false, Bool.not_eq_true, Bool.not_eq_false, Bool.true_eq_false, Bool.false_eq_true, false_and, and_false, or_true, true_or, false_or, or_false, e, k, n_bit, b_or, e0, e1, hb, Bool.toNat_true]
      exact this
    · have hb : (h0 || h1) = false := by rw [Bool.or_eq_false_iff]; exact ⟨Bool.eq_false_iff.mpr fun q => hh (Or.inl q), Bool.eq_false_iff.mpr fun q => hh (Or.inr q)⟩
      by_cases hca : c ≤ a
      · have := hK 1 (by omega) (by omega) (fun q => by omega) (fun q => by rw [tk_0, if_neg (fun q => hh (q.elim Or.inl (fun q => q.elim Or.inr (fun q => absurd q (by omega))))), if_pos hca]; exact ⟨rfl, rfl⟩) (fun q => by omega)
        simp (disch := first | omega | assumption) only [n_lit, n_gLt, n_gLe, n_gEq, n_gEq2, n_gLe2, n_gLt2, n_m1, n_add, n_mul, n_lt, n_le, n_eq, n_cl, n_in, n_rem, n_mlt, n_mle, n_ltm, n_lem, n_eqm, n_meq, n_bit, n_shl, n_b0, n_b1, n_sub, n_inT, nT, nF, lT, lF, eT, eF, not_false_eq_true, not_true_eq_false, sI_at, sI_c, sI_j, aI_at, aI_c, sL_at, sL_c, sL_j, true_and, and_true, not_true_eq_false, not_false_eq_true, forall_const, true_implies, false_implies, implies_true, if_true, if_false, ite_true, ite_false, Bool.not_eq_true, Bool.not_eq_false, Bool.true_eq_false, Bool.false_eq_true, false_and, and_false, or_true, true_or, false_or, or_false, e, k, n_bit, b_or, e0, e1, hb, Bool.toNat_false]
        exact this
      · have := hK (-1) (by omega) (by omega) (fun q => by omega) (fun q => by omega) (fun q => by rw [tk_0, if_neg (fun q => hh (q.elim Or.inl (fun q => q.elim Or.inr (fun q => absurd q (by omega))))), if_neg hca]; exact ⟨rfl, rfl⟩)
        simp (disch := first | omega | assumption) only [n_lit, n_gLt, n_gLe, n_gEq, n_gEq2, n_gLe2, n_gLt2, n_m1, n_add, n_mul, n_lt, n_le, n_eq, n_cl, n_in, n_rem, n_mlt, n_mle, n_ltm, n_lem, n_eqm, n_meq, n_bit, n_shl, n_b0, n_b1, n_sub, n_inT, nT, nF, lT, lF, eT, eF, not_false_eq_true, not_true_eq_false, sI_at, sI_c, sI_j, aI_at, aI_c, sL_at, sL_c, sL_j, true_and, and_true, not_true_eq_false, not_false_eq_true, forall_const, true_implies, false_implies, implies_true, if_true, if_false, ite_true, ite_false, Bool.not_eq_true, Bool.not_eq_false, Bool.true_eq_false, Bool.false_eq_true, false_and, and_false, or_true, true_or, false_or, or_false, e, k, n_bit, b_or, e0, e1, hb, Bool.toNat_false]
        exact this
  · rw [tk_z (by omega), sI_id es, k] at hK
    have := hK ((a : Int) - c) (by omega) (by omega) (fun q => by rw [tk_1, if_neg (by omega), if_neg (by omega)]; exact ⟨rfl, rfl⟩) (fun q => by rw [tk_1, if_pos (by omega)]; exact ⟨rfl, rfl⟩) (fun q => by rw [tk_1, if_neg (by omega), if_pos (by omega)]; exact ⟨rfl, rfl⟩)
    rw [← z_sub, ← z_nat, ← z_nat] at this
    have e := e.trans (congrArg nI k)
    obtain ⟨hb, hbb⟩ := hbb
    cases hb
    · simp (disch := first | omega | assumption) only [n_lit, n_gLt, n_gLe, n_gEq, n_gEq2, n_gLe2, n_gLt2, n_m1, n_add, n_mul, n_lt, n_le, n_eq, n_cl, n_in, n_rem, n_mlt, n_mle, n_ltm, n_lem, n_eqm, n_meq, n_bit, n_shl, n_b0, n_b1, n_sub, n_inT, nT, nF, lT, lF, eT, eF, not_false_eq_true, not_true_eq_false, sI_at, sI_c, sI_j, aI_at, aI_c, sL_at, sL_c, sL_j, true_and, and_true, not_true_eq_false, not_false_eq_true, forall_const, true_implies, false_implies, implies_true, if_true, if_false, ite_true, ite_false, Bool.not_eq_true, Bool.not_eq_false, Bool.true_eq_false, Bool.false_eq_true, false_and, and_false, or_true, true_or, false_or, or_false, e, b_or, e0, e1, hbb, Bool.toNat_false]
      exact this
    · simp (disch := first | omega | assumption) only [n_lit, n_gLt, n_gLe, n_gEq, n_gEq2, n_gLe2, n_gLt2, n_m1, n_add, n_mul, n_lt, n_le, n_eq, n_cl, n_in, n_rem, n_mlt, n_mle, n_ltm, n_lem, n_eqm, n_meq, n_bit, n_shl, n_b0, n_b1, n_sub, n_inT, nT, nF, lT, lF, eT, eF, not_false_eq_true, not_true_eq_false, sI_at, sI_c, sI_j, aI_at, aI_c, sL_at, sL_c, sL_j, true_and, and_true, not_true_eq_false, not_false_eq_true, forall_const, true_implies, false_implies, implies_true, if_true, if_false, ite_true, ite_false, Bool.not_eq_true, Bool.not_eq_false, Bool.true_eq_false, Bool.false_eq_true, false_and, and_false, or_true, true_or, false_or, or_false, e, b_or, e0, e1, hbb, Bool.toNat_true]
      exact this
  · rw [k, tk_2z] at hK
    rw [k] at hz
    have := hK (clampI (z + a - c)) (by omega) (by omega) (fun q => by rw [tk_2, if_neg (by omega), if_neg (by omega)]; exact ⟨rfl, rfl⟩) (fun q => by rw [tk_2, if_pos (by omega)]; exact ⟨rfl, rfl⟩) (fun q => by rw [tk_2, if_neg (by omega), if_pos (by omega)]; exact ⟨rfl, rfl⟩)
    have e := e.trans (congrArg nI k)
    have hX : zI z + nI a - nI c = zI (z + a - c) := by rw [z_nat, z_nat, z_add, z_sub]
    have hzb := hz.1
    have p1 : (zI z + nI a - nI c < zI 99) = (z + a - c < 99) := by rw [hX, z_lt (by omega) (by omega) (by omega) (by omega)]
    have p2 : (zI (-99) < zI z + nI a - nI c) = (-99 < z + a - c) := by rw [hX, z_lt (by omega) (by omega) (by omega) (by omega)]
    have p3 : (zI (-99) < zI 99) = True := eq_true (by decide)
    obtain ⟨hb, hbb⟩ := hbb
    cases hb
    · simp (disch := first | omega | assumption) only [n_lit, n_gLt, n_gLe, n_gEq, n_gEq2, n_gLe2, n_gLt2, n_m1, n_add, n_mul, n_lt, n_le, n_eq, n_cl, n_in, n_rem, n_mlt, n_mle, n_ltm, n_lem, n_eqm, n_meq, n_bit, n_shl, n_b0, n_b1, n_sub, n_inT, nT, nF, lT, lF, eT, eF, not_false_eq_true, not_true_eq_false, sI_at, sI_c, sI_j, aI_at, aI_c, sL_at, sL_c, sL_j, true_and, and_true, not_true_eq_false, not_false_eq_true, forall_const, true_implies, false_implies, implies_true, if_true, if_false, ite_true, ite_false, Bool.not_eq_true, Bool.not_eq_false, Bool.true_eq_false, Bool.false_eq_true, false_and, and_false, or_true, true_or, false_or, or_false, e, b_or, e0, e1, hbb, Bool.toNat_false, es]
      simp only [z_m99, z_99]
      by_cases c1 : z + a - c < 99
      · by_cases c2 : -99 < z + a - c
        · have q : clampI (z + a - c) = z + a - c := by
            unfold clampI
            rw [if_neg (by omega), if_neg (by omega)]
          rw [q] at this
          simp only [p1, c1, if_true, p2, c2]
          simp only [hX]
          exact this
        · have q : clampI (z + a - c) = -99 := by
            unfold clampI
            rw [if_neg (by omega)]
            split <;> omega
          rw [q] at this
          simp only [p1, c1, if_true, p2, c2, if_false]
          exact this
      · have q : clampI (z + a - c) = 99 := by
          unfold clampI
          split
          · rfl
          · rw [if_neg (by omega)]; omega
        rw [q] at this
        simp only [p1, c1, if_false, p3, if_true]
        exact this
    · simp (disch := first | omega | assumption) only [n_lit, n_gLt, n_gLe, n_gEq, n_gEq2, n_gLe2, n_gLt2, n_m1, n_add, n_mul, n_lt, n_le, n_eq, n_cl, n_in, n_rem, n_mlt, n_mle, n_ltm, n_lem, n_eqm, n_meq, n_bit, n_shl, n_b0, n_b1, n_sub, n_inT, nT, nF, lT, lF, eT, eF, not_false_eq_true, not_true_eq_false, sI_at, sI_c, sI_j, aI_at, aI_c, sL_at, sL_c, sL_j, true_and, and_true, not_true_eq_false, not_false_eq_true, forall_const, true_implies, false_implies, implies_true, if_true, if_false, ite_true, ite_false, Bool.not_eq_true, Bool.not_eq_false, Bool.true_eq_false, Bool.false_eq_true, false_and, and_false, or_true, true_or, false_or, or_false, e, b_or, e0, e1, hbb, Bool.toNat_true, es]
      simp only [z_m99, z_99]
      by_cases c1 : z + a - c < 99
      · by_cases c2 : -99 < z + a - c
        · have q : clampI (z + a - c) = z + a - c := by
            unfold clampI
            rw [if_neg (by omega), if_neg (by omega)]
          rw [q] at this
          simp only [p1, c1, if_true, p2, c2]
          simp only [hX]
          exact this
        · have q : clampI (z + a - c) = -99 := by
            unfold clampI
            rw [if_neg (by omega)]
            split <;> omega
          rw [q] at this
          simp only [p1, c1, if_true, p2, c2, if_false]
          exact this
      · have q : clampI (z + a - c) = 99 := by
          unfold clampI
          split
          · rfl
          · rw [if_neg (by omega)]; omega
        rw [q] at this
        simp only [p1, c1, if_false, p3, if_true]
        exact this
  · rw [tk_z (by omega), sI_id es, k] at hK
    have e := e.trans (congrArg nI k)
    by_cases hc0 : 0 < c
    · have := hK (-(c : Int)) (by omega) (by omega) (fun q => by omega) (fun q => by omega) (fun q => by rw [tk_3, if_pos hc0]; exact ⟨rfl, rfl⟩)
      rw [← z_neg, ← z_nat] at this
      obtain ⟨hb, hbb⟩ := hbb
      cases hb
      · simp (disch := first | omega | assumption) only [n_lit, n_gLt, n_gLe, n_gEq, n_gEq2, n_gLe2, n_gLt2, n_m1, n_add, n_mul, n_lt, n_le, n_eq, n_cl, n_in, n_rem, n_mlt, n_mle, n_ltm, n_lem, n_eqm, n_meq, n_bit, n_shl, n_b0, n_b1, n_sub, n_inT, nT, nF, lT, lF, eT, eF, not_false_eq_true, not_true_eq_false, sI_at, sI_c, sI_j, aI_at, aI_c, sL_at, sL_c, sL_j, true_and, and_true, not_true_eq_false, not_false_eq_true, forall_const, true_implies, false_implies, implies_true, if_true, if_false, ite_true, ite_false, Bool.not_eq_true, Bool.not_eq_false, Bool.true_eq_false, Bool.false_eq_true, false_and, and_false, or_true, true_or, false_or, or_false, e, b_or, e0, e1, hbb, Bool.toNat_false]
        exact this
      · simp (disch := first | omega | assumption) only [n_lit, n_gLt, n_gLe, n_gEq, n_gEq2, n_gLe2, n_gLt2, n_m1, n_add, n_mul, n_lt, n_le, n_eq, n_cl, n_in, n_rem, n_mlt, n_mle, n_ltm, n_lem, n_eqm, n_meq, n_bit, n_shl, n_b0, n_b1, n_sub, n_inT, nT, nF, lT, lF, eT, eF, not_false_eq_true, not_true_eq_false, sI_at, sI_c, sI_j, aI_at, aI_c, sL_at, sL_c, sL_j, true_and, and_true, not_true_eq_false, not_false_eq_true, forall_const, true_implies, false_implies, implies_true, if_true, if_false, ite_true, ite_false, Bool.not_eq_true, Bool.not_eq_false, Bool.true_eq_false, Bool.false_eq_true, false_and, and_false, or_true, true_or, false_or, or_false, e, b_or, e0, e1, hbb, Bool.toNat_true]
        exact this
    · by_cases hh : h0 = true ∨ h1 = true
      · have hb : (h0 || h1) = true := by rw [Bool.or_eq_true]; exact hh
        have := hK 0 (by omega) (by omega) (fun _ => by rw [tk_3, if_neg hc0, if_pos hh]; exact ⟨rfl, rfl⟩) (fun q => by omega) (fun q => by omega)
        simp (disch := first | omega | assumption) only [n_lit, n_gLt, n_gLe, n_gEq, n_gEq2, n_gLe2, n_gLt2, n_m1, n_add, n_mul, n_lt, n_le, n_eq, n_cl, n_in, n_rem, n_mlt, n_mle, n_ltm, n_lem, n_eqm, n_meq, n_bit, n_shl, n_b0, n_b1, n_sub, n_inT, nT, nF, lT, lF, eT, eF, not_false_eq_true, not_true_eq_false, sI_at, sI_c, sI_j, aI_at, aI_c, sL_at, sL_c, sL_j, true_and, and_true, not_true_eq_false, not_false_eq_true, forall_const, true_implies, false_implies, implies_true, if_true, if_false, ite_true, ite_false, Bool.not_eq_true, Bool.not_eq_false, Bool.true_eq_false, Bool.false_eq_true, false_and, and_false, or_true, true_or, false_or, or_false, e, b_or, e0, e1, hb, Bool.toNat_true]
        exact this
      · have hb : (h0 || h1) = false := by rw [Bool.or_eq_false_iff]; exact ⟨Bool.eq_false_iff.mpr fun q => hh (Or.inl q), Bool.eq_false_iff.mpr fun q => hh (Or.inr q)⟩
        have := hK (a : Int) (by omega) (by omega) (fun q => by omega) (fun q => by rw [tk_3, if_neg hc0, if_neg hh, if_pos (by omega)]; exact ⟨rfl, rfl⟩) (fun q => by omega)
        rw [← z_nat] at this
        simp (disch := first | omega | assumption) only [n_lit, n_gLt, n_gLe, n_gEq, n_gEq2, n_gLe2, n_gLt2, n_m1, n_add, n_mul, n_lt, n_le, n_eq, n_cl, n_in, n_rem, n_mlt, n_mle, n_ltm, n_lem, n_eqm, n_meq, n_bit, n_shl, n_b0, n_b1, n_sub, n_inT, nT, nF, lT, lF, eT, eF, not_false_eq_true, not_true_eq_false, sI_at, sI_c, sI_j, aI_at, aI_c, sL_at, sL_c, sL_j, true_and, and_true, not_true_eq_false, not_false_eq_true, forall_const, true_implies, false_implies, implies_true, if_true, if_false, ite_true, ite_false, Bool.not_eq_true, Bool.not_eq_false, Bool.true_eq_false, Bool.false_eq_true, false_and, and_false, or_true, true_or, false_or, or_false, e, b_or, e0, e1, hb, Bool.toNat_false]
        exact this
  · have hz : (nI 0 : Int32) = zI 0 := rfl
    have hz1 : (nI 1 : Int32) = zI 1 := rfl
    have hzm : nM = zI (-1) := rfl
    rw [tk_z (by omega), sI_id es, k] at hK
    by_cases hh : h0 = true ∨ h1 = true
    · have hb : (h0 || h1) = true := by rw [Bool.or_eq_true]; exact hh
      have := hK 0 (by omega) (by omega) (fun _ => by rw [tk_5, if_pos (hh.elim Or.inl (fun q => Or.inr (Or.inl q)))]; exact ⟨rfl, rfl⟩) (fun q => by omega) (fun q => by omega)
      simp (disch := first | omega | assumption) only [n_lit, n_gLt, n_gLe, n_gEq, n_gEq2, n_gLe2, n_gLt2, n_m1, n_add, n_mul, n_lt, n_le, n_eq, n_cl, n_in, n_rem, n_mlt, n_mle, n_ltm, n_lem, n_eqm, n_meq, n_bit, n_shl, n_b0, n_b1, n_sub, n_inT, nT, nF, lT, lF, eT, eF, not_false_eq_true, not_true_eq_false, sI_at, sI_c, sI_j, aI_at, aI_c, sL_at, sL_c, sL_j, true_and, and_true, not_true_eq_false, not_false_eq_true, forall_const, true_implies, false_implies, implies_true, if_true, if_false, ite_true, ite_false, Bool.not_eq_true, Bool.not_eq_false, Bool.true_eq_false, Bool.false_eq_true, false_and, and_false, or_true, true_or, false_or, or_false, e, k, n_bit, b_or, e0, e1, hb, Bool.toNat_true]
      exact this
    · have hb : (h0 || h1) = false := by rw [Bool.or_eq_false_iff]; exact ⟨Bool.eq_false_iff.mpr fun q => hh (Or.inl q), Bool.eq_false_iff.mpr fun q => hh (Or.inr q)⟩
      by_cases hca : c ≤ a
      · have := hK 1 (by omega) (by omega) (fun q => by omega) (fun q => by rw [tk_5, if_neg (fun q => hh (q.elim Or.inl (fun q => q.elim Or.inr (fun q => absurd q (by omega))))), if_pos hca]; exact ⟨rfl, rfl⟩) (fun q => by omega)
        simp (disch := first | omega | assumption) only [n_lit, n_gLt, n_gLe, n_gEq, n_gEq2, n_gLe2, n_gLt2, n_m1, n_add, n_mul, n_lt, n_le, n_eq, n_cl, n_in, n_rem, n_mlt, n_mle, n_ltm, n_lem, n_eqm, n_meq, n_bit, n_shl, n_b0, n_b1, n_sub, n_inT, nT, nF, lT, lF, eT, eF, not_false_eq_true, not_true_eq_false, sI_at, sI_c, sI_j, aI_at, aI_c, sL_at, sL_c, sL_j, true_and, and_true, not_true_eq_false, not_false_eq_true, forall_const, true_implies, false_implies, implies_true, if_true, if_false, ite_true, ite_false, Bool.not_eq_true, Bool.not_eq_false, Bool.true_eq_false, Bool.false_eq_true, false_and, and_false, or_true, true_or, false_or, or_false, e, k, n_bit, b_or, e0, e1, hb, Bool.toNat_false]
        exact this
      · have := hK (-1) (by omega) (by omega) (fun q => by omega) (fun q => by omega) (fun q => by rw [tk_5, if_neg (fun q => hh (q.elim Or.inl (fun q => q.elim Or.inr (fun q => absurd q (by omega))))), if_neg hca]; exact ⟨rfl, rfl⟩)
        simp (disch := first | omega | assumption) only [n_lit, n_gLt, n_gLe, n_gEq, n_gEq2, n_gLe2, n_gLt2, n_m1, n_add, n_mul, n_lt, n_le, n_eq, n_cl, n_in, n_rem, n_mlt, n_mle, n_ltm, n_lem, n_eqm, n_meq, n_bit, n_shl, n_b0, n_b1, n_sub, n_inT, nT, nF, lT, lF, eT, eF, not_false_eq_true, not_true_eq_false, sI_at, sI_c, sI_j, aI_at, aI_c, sL_at, sL_c, sL_j, true_and, and_true, not_true_eq_false, not_false_eq_true, forall_const, true_implies, false_implies, implies_true, if_true, if_false, ite_true, ite_false, Bool.not_eq_true, Bool.not_eq_false, Bool.true_eq_false, Bool.false_eq_true, false_and, and_false, or_true, true_or, false_or, or_false, e, k, n_bit, b_or, e0, e1, hb, Bool.toNat_false]
        exact this

/-- the persons that have heard already -/
def hrdP (w : Wd) (d i : Nat) (I : MI) : Prop := (∀ p, p < 32 → bt (I 167 d) p = (decide (p < w.v.n) && (if p < i then haS w d (stp w d) 0 p else (stp w d).ha 0 p))) ∧ (∀ p, p < 32 → bt (I 173 d) p = (decide (p < w.v.n) && (if p < i then haS w d (stp w d) 1 p else (stp w d).ha 1 p))) ∧ ∀ p, p < 16 → I 178 (d * 16 + p) = zI (if p < w.v.n then (if p < i then (tkS w d (stp w d) p).2.2 else (stp w d).su p) else 0)
theorem hrd_next {w : Wd} {d i : Nat} {I I' : MI} (hi : i < w.v.n) (hn : w.v.n ≤ 16) (H : hrdP w d i I) (h0 : ∀ p, p < 32 → bt (I' 167 d) p = if p = i then (tkS w d (stp w d) i).1 else bt (I 167 d) p) (h1 : ∀ p, p < 32 → bt (I' 173 d) p = if p = i then (tkS w d (stp w d) i).2.1 else bt (I 173 d) p) (h2 : ∀ p, p < 16 → I' 178 (d * 16 + p) = if p = i then zI (tkS w d (stp w d) i).2.2 else I 178 (d * 16 + p)) : hrdP w d (i + 1) I' := by
  obtain ⟨q0, q1, q2⟩ := H
  refine ⟨fun p hp => ?_, fun p hp => ?_, fun p hp => ?_⟩
  · rw [h0 p hp]
    by_cases e : p = i
    · subst e
      rw [if_pos rfl, if_pos (by omega), decide_eq_true hi]
      rfl
    · rw [if_neg e, q0 p hp]
      by_cases c : p < i
      · rw [if_pos c, if_pos (by omega)]
      · rw [if_neg c, if_neg (by omega)]
  · rw [h1 p hp]
    by_cases e : p = i
    · subst e
      rw [if_pos rfl, if_pos (by omega), decide_eq_true hi]
      rfl
    · rw [if_neg e, q1 p hp]
      by_cases c : p < i
      · rw [if_pos c, if_pos (by omega)]
      · rw [if_neg c, if_neg (by omega)]
  · rw [h2 p hp]
    by_cases e : p = i
    · subst e
      rw [if_pos rfl, if_pos hi, if_pos (by omega)]
    · rw [if_neg e, q2 p hp]
      by_cases c9 : p < w.v.n
      · rw [if_pos c9, if_pos c9]
        by_cases c : p < i
        · rw [if_pos c, if_pos (by omega)]
        · rw [if_neg c, if_neg (by omega)]
      · rw [if_neg c9, if_neg c9]
theorem b_clear {x : Int32} {i p : Nat} (hi : i < 32) (hp : p < 32) (y : Int32) : bt ((x &&& (nI (2 ^ i) ^^^ nM)) ||| y) p = (if p = i then bt y p else (bt x p || bt y p)) := by
  rw [b_or, b_and, b_xor, b_2p hp, b_m1 p hp, Bool.xor_true]
  by_cases e : p = i
  · subst e
    rw [if_pos rfl, decide_eq_true rfl, Bool.not_true, Bool.and_false, Bool.false_or]
  · rw [if_neg e, decide_eq_false (fun q => e q.symm), Bool.not_false, Bool.and_true]
theorem b_set {x : Int32} {i p : Nat} (hp : p < 32) : bt (x ||| nI (2 ^ i)) p = (if p = i then true else bt x p) := by
  rw [b_or, b_2p hp]
  by_cases e : p = i
  · subst e
    rw [if_pos rfl, decide_eq_true rfl, Bool.or_true]
  · rw [if_neg e, decide_eq_false (fun q => e q.symm), Bool.or_false]
theorem b_or0 (x : Int32) (p : Nat) : bt (x ||| nI 0) p = bt x p := by rw [b_or, b_0, Bool.or_false]
theorem b_none (y : Int32) (p : Nat) : bt (nI 0) p = false := b_0 p
