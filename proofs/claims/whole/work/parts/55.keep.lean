/-! A DAY of the reference is kept; days that are alike there -/
def lkS (w : Wd) (d j : Nat) : Int32 :=
  if j < 16 then (if j < w.v.n then nI (hc ((stt w d).ha 0 j) ((stt w d).ha 1 j)) else nI 0)
  else if j < 32 then (if j - 16 < w.v.n then zI ((stt w d).su (j - 16)) else nI 0)
  else if j < 48 then nI (if j - 32 < w.v.n then (stt w d).cn 0 (j - 32) else 0)
  else if j < 64 then nI (if j - 48 < w.v.n then (stt w d).cn 1 (j - 48) else 0)
  else nI ((stt w d).du ((j - 64) % 32 % 2) ((j - 64) / 32 + 1) ((j - 64) % 32 / 2))
def sgS (w : Wd) (d : Nat) : Nat → Int64
  | 0 => 0
  | n + 1 => sgS w d n * 1000003 + Int32.toInt64 (lkS w d n)
/-- what the reference knows behind a day -/
def endP (w : Wd) (d : Nat) (I : MI) : Prop := cmP w (d + 1) I ∧ (∀ s, s < 2 → ∀ p, p < 16 → I 197 (2 * p + s) = nI (if p < w.v.n then (stt w d).cn s p else 0)) ∧ ∀ p, p < w.v.n → I 190 (16 * d + p) = nI (hc ((stt w d).ha 0 p) ((stt w d).ha 1 p)) ∧ I 193 (16 * d + p) = zI ((stt w d).su p)
theorem syP_end {w : Wd} {d : Nat} {I0 I : MI} (ok : w.v.ok 41) (h : syP w d w.v.n 0 I0 I) (hp : ∀ p, p < w.v.n → perM w d p I0) : endP w d I := by
  obtain ⟨a1, a2, a3, a4, a5⟩ := h
  have dn : ∀ s p, p < w.v.n → dnS w.v.n 0 s p = true := fun s p hp => by
    unfold dnS
    rw [decide_eq_true hp, Bool.true_or]
  refine ⟨fun j hj s hs p hp' => ?_, fun s hs p hp' => ?_, fun p hp' => ?_⟩
  · obtain ⟨q1, q2⟩ := a3 (j + 1) (by omega) (by omega) s hs p hp'
    rw [show d + 1 + j = d + (j + 1) by omega, q1, q2]
    have e1 : sumN (outT w d s (j + 1) p (fun s t => dnS w.v.n 0 s (w.v.fr t))) w.v.m = sumN (fun t => if (w.v.to t = p ∧ w.v.dl s t = j + 1) ∧ goS w d (stp w d) s t = true then w.v.st t else 0) w.v.m := sumN_cong (fun t ht => by
      have := (ok.2.2.2.2.2.2 t ht).1
      unfold outT
      simp only [dn s _ this, Bool.true_and])
    have e2 : minN ((stp w d).bf s (j + 1 + 1) p) (outF w d s (j + 1) p (fun s t => dnS w.v.n 0 s (w.v.fr t))) w.v.m = minN ((stp w d).bf s (j + 1 + 1) p) (fun t => if (w.v.to t = p ∧ w.v.dl s t = j + 1) ∧ goS w d (stp w d) s t = true then w.v.fr t else 99) w.v.m := by
      refine eq_of_le_iff (fun q => ?_)
      rw [minN_iff, minN_iff]
      refine and_congr Iff.rfl (forall_congr' (fun t => imp_congr_right (fun ht => ?_)))
      have := (ok.2.2.2.2.2.2 t ht).1
      unfold outF
      simp only [dn s _ this, Bool.true_and]
    rw [e1, e2]
    show _ = nI ((stt w d).du s (j + 1) p) ∧ _ = nI ((stt w d).bf s (j + 1) p)
    rw [stt_eq]
    exact ⟨rfl, rfl⟩
  · rw [a4 s hs p hp']
    by_cases c : p < w.v.n
    · rw [if_pos c, if_pos c, dn s p c, Bool.true_and, stt_cn]
    · rw [if_neg c, if_neg c]
  · obtain ⟨q1, q2, q3, q4⟩ := hp p hp'
    rw [a1 190 (by omega), a1 193 (by omega), stt_ha, stt_ha, stt_su]
    exact ⟨q1, q4⟩
theorem cm_keeps {v : Vil} {t : Tel} {x : Wi} {o : Nat} {w : Wd} {d : Nat} {b : Bool} {I : MI} {L : ML} {K : Bool → MI → ML → Prop} (h : WM v t x o w I L) (hd : d ≤ 200) (E : endP w d I) (hK : ∀ I' L', (∀ a, a ≠ 200 → I' a = I a) → (∀ j, j < 288 * d ∨ 288 * d + 288 ≤ j → I' 200 j = I 200 j) → (∀ j, j < 288 → I' 200 (288 * d + j) = lkS w d j) → (∀ a, a ≠ 201 → L' a = L a) → (∀ j, j ≠ d → L' 201 j = L 201 j) → L' 201 d = sgS w d 288 → K b I' L') : CV m_M_keeps [vr 22 186, vi (nI d)] b I L K := by
  obtain ⟨E1, E2, E3⟩ := E
  have okw := h.1.2.1
  have hn := okw.1.2
  have hfr : ∀ I1 : MI, (∀ a, a ≠ 200 → I1 a = I a) → WM v t x o w I1 L := fun I1 f => h.fr (fun j _ => by rw [f 186 (by decide)]) (f 187 (by decide)) rfl
  -- the number of it
  have loopS : ∀ I1 : MI, (∀ a, a ≠ 200 → I1 a = I a) → (∀ j, j < 288 * d ∨ 288 * d + 288 ≤ j → I1 200 j = I 200 j) → (∀ j, j < 288 → I1 200 (288 * d + j) = lkS w d j) → ∀ n i, i + n = 288 → SW m_M_keeps 205 [vr 22 186, vi (nI d), vi (nI (288 * d)), vl (sgS w d i), un, vi (nI i)] [] b I1 L (kV K) := by
    intro I1 f1 f2 f3 n
    induction n with
    | zero =>
      intro i hi
      obtain rfl : i = 288 := by omega
      refine v_M_keeps_205 ?_
      simp (disch := first | omega | assumption) only [n_lit, n_gLt, n_gLe, n_gEq, n_gEq2, n_gLe2, n_gLt2, n_m1, n_add, n_mul, n_lt, n_le, n_eq, n_cl, n_in, n_rem, n_mlt, n_mle, n_ltm, n_lem, n_eqm, n_meq, n_bit, n_shl, n_b0, n_b1, n_sub, n_inT, nT, nF, lT, lF, eT, eF, not_false_eq_true, not_true_eq_false, sI_at, sI_c, sI_j, aI_at, aI_c, sL_at, sL_c, sL_j, true_and, and_true, not_true_eq_false, not_false_eq_true, forall_const, true_implies, false_implies, implies_true, if_true, if_false, ite_true, ite_false, Bool.not_eq_true, Bool.not_eq_false, Bool.true_eq_false, Bool.false_eq_true, false_and, and_false, or_true, true_or, false_or, or_false]
      exact hK I1 _ f1 f2 f3 (fun a ha => sL_c ha) (fun j hj => sL_j hj) (sL_at _ _ _ _)
    | succ n ih =>
      intro i hi
      have e := f3 i (by omega)
      refine v_M_keeps_205 ?_
      simp (disch := first | omega | assumption) only [n_lit, n_gLt, n_gLe, n_gEq, n_gEq2, n_gLe2, n_gLt2, n_m1, n_add, n_mul, n_lt, n_le, n_eq, n_cl, n_in, n_rem, n_mlt, n_mle, n_ltm, n_lem, n_eqm, n_meq, n_bit, n_shl, n_b0, n_b1, n_sub, n_inT, nT, nF, lT, lF, eT, eF, not_false_eq_true, not_true_eq_false, sI_at, sI_c, sI_j, aI_at, aI_c, sL_at, sL_c, sL_j, true_and, and_true, not_true_eq_false, not_false_eq_true, forall_const, true_implies, false_implies, implies_true, if_true, if_false, ite_true, ite_false, Bool.not_eq_true, Bool.not_eq_false, Bool.true_eq_false, Bool.false_eq_true, false_and, and_false, or_true, true_or, false_or, or_false, e]
      exact ih (i + 1) (by omega)
  -- what is to come
  have loopK : ∀ n k, k + n = 8 → 1 ≤ k → ∀ I1 : MI, (∀ a, a ≠ 200 → I1 a = I a) → (∀ j, j < 288 * d ∨ 288 * d + 288 ≤ j → I1 200 j = I 200 j) → (∀ j, j < 64 + 32 * (k - 1) → I1 200 (288 * d + j) = lkS w d j) → SW m_M_keeps 136 [vr 22 186, vi (nI d), vi (nI (288 * d)), vi (nI k), un, un] [] b I1 L (kV K) := by
    intro n
    induction n with
    | zero =>
      intro k hk k1 I1 f1 f2 f3
      obtain rfl : k = 8 := by omega
      refine v_M_keeps_136 ?_
      simp (disch := first | omega | assumption) only [n_lit, n_gLt, n_gLe, n_gEq, n_gEq2, n_gLe2, n_gLt2, n_m1, n_add, n_mul, n_lt, n_le, n_eq, n_cl, n_in, n_rem, n_mlt, n_mle, n_ltm, n_lem, n_eqm, n_meq, n_bit, n_shl, n_b0, n_b1, n_sub, n_inT, nT, nF, lT, lF, eT, eF, not_false_eq_true, not_true_eq_false, sI_at, sI_c, sI_j, aI_at, aI_c, sL_at, sL_c, sL_j, true_and, and_true, not_true_eq_false, not_false_eq_true, forall_const, true_implies, false_implies, implies_true, if_true, if_false, ite_true, ite_false, Bool.not_eq_true, Bool.not_eq_false, Bool.true_eq_false, Bool.false_eq_true, false_and, and_false, or_true, true_or, false_or, or_false]
      exact loopS I1 f1 f2 f3 288 0 (by omega)
    | succ n ih =>
      intro k hk k1 I1 f1 f2 f3
      have row : ∀ m i, i + m = 32 → ∀ I2 : MI, (∀ a, a ≠ 200 → I2 a = I a) → (∀ j, j < 288 * d ∨ 288 * d + 288 ≤ j → I2 200 j = I 200 j) → (∀ j, j < 64 + 32 * (k - 1) + i → I2 200 (288 * d + j) = lkS w d j) → SW m_M_keeps 145 [vr 22 186, vi (nI d), vi (nI (288 * d)), vi (nI k), vi (nI i), un] [] b I2 L (kV K) := by
        intro m
        induction m with
        | zero =>
          intro i hi I2 g1 g2 g3
          obtain rfl : i = 32 := by omega
          refine v_M_keeps_145 ?_
          simp (disch := first | omega | assumption) only [n_lit, n_gLt, n_gLe, n_gEq, n_gEq2, n_gLe2, n_gLt2, n_m1, n_add, n_mul, n_lt, n_le, n_eq, n_cl, n_in, n_rem, n_mlt, n_mle, n_ltm, n_lem, n_eqm, n_meq, n_bit, n_shl, n_b0, n_b1, n_sub, n_inT, nT, nF, lT, lF, eT, eF, not_false_eq_true, not_true_eq_false, sI_at, sI_c, sI_j, aI_at, aI_c, sL_at, sL_c, sL_j, true_and, and_true, not_true_eq_false, not_false_eq_true, forall_const, true_implies, false_implies, implies_true, if_true, if_false, ite_true, ite_false, Bool.not_eq_true, Bool.not_eq_false, Bool.true_eq_false, Bool.false_eq_true, false_and, and_false, or_true, true_or, false_or, or_false]
          exact ih (k + 1) (by omega) (by omega) I2 g1 g2 (fun j hj => g3 j (by omega))
        | succ m ihm =>
          intro i hi I2 g1 g2 g3
          have e195 : I2 195 (32 * ((d + k) % 8) + i) = nI ((stt w d).du (i % 2) k (i / 2)) := by
            rw [g1 195 (by decide)]
            have := (E1 (k - 1) (by omega) (i % 2) (by omega) (i / 2) (by omega)).1
            rw [show d + 1 + (k - 1) = d + k by omega, show k - 1 + 1 = k by omega, show 32 * ((d + k) % 8) + 2 * (i / 2) + i % 2 = 32 * ((d + k) % 8) + i by omega] at this
            exact this
          refine v_M_keeps_145 ?_
          simp (disch := first | omega | assumption) only [n_lit, n_gLt, n_gLe, n_gEq, n_gEq2, n_gLe2, n_gLt2, n_m1, n_add, n_mul, n_lt, n_le, n_eq, n_cl, n_in, n_rem, n_mlt, n_mle, n_ltm, n_lem, n_eqm, n_meq, n_bit, n_shl, n_b0, n_b1, n_sub, n_inT, nT, nF, lT, lF, eT, eF, not_false_eq_true, not_true_eq_false, sI_at, sI_c, sI_j, aI_at, aI_c, sL_at, sL_c, sL_j, true_and, and_true, not_true_eq_false, not_false_eq_true, forall_const, true_implies, false_implies, implies_true, if_true, if_false, ite_true, ite_false, Bool.not_eq_true, Bool.not_eq_false, Bool.true_eq_false, Bool.false_eq_true, false_and, and_false, or_true, true_or, false_or, or_false, e195]
          refine ihm (i + 1) (by omega) _ (fun a ha => by rw [sI_c ha]; exact g1 a ha) (fun j hj => by rw [sI_j (by omega)]; exact g2 j hj) (fun j hj => ?_)
          by_cases c : j = 64 + 32 * (k - 1) + i
          · subst c
            rw [show 288 * d + (64 + 32 * (k - 1) + i) = 288 * d + 64 + 32 * (k - 1) + i by omega, sI_at]
            unfold lkS
            rw [if_neg (by omega), if_neg (by omega), if_neg (by omega), if_neg (by omega), show (64 + 32 * (k - 1) + i - 64) % 32 = i by omega, show (64 + 32 * (k - 1) + i - 64) / 32 + 1 = k by omega]
          · rw [sI_j (by omega)]
            exact g3 j (by omega)
      refine v_M_keeps_136 ?_
      simp (disch := first | omega | assumption) only [n_lit, n_gLt, n_gLe, n_gEq, n_gEq2, n_gLe2, n_gLt2, n_m1, n_add, n_mul, n_lt, n_le, n_eq, n_cl, n_in, n_rem, n_mlt, n_mle, n_ltm, n_lem, n_eqm, n_meq, n_bit, n_shl, n_b0, n_b1, n_sub, n_inT, nT, nF, lT, lF, eT, eF, not_false_eq_true, not_true_eq_false, sI_at, sI_c, sI_j, aI_at, aI_c, sL_at, sL_c, sL_j, true_and, and_true, not_true_eq_false, not_false_eq_true, forall_const, true_implies, false_implies, implies_true, if_true, if_false, ite_true, ite_false, Bool.not_eq_true, Bool.not_eq_false, Bool.true_eq_false, Bool.false_eq_true, false_and, and_false, or_true, true_or, false_or, or_false]
      exact row 32 0 (by omega) I1 f1 f2 (fun j hj => f3 j (by omega))
  -- the persons
  have loopP : ∀ n p, p + n = 16 → ∀ I1 : MI, (∀ a, a ≠ 200 → I1 a = I a) → (∀ j, j < 288 * d ∨ 288 * d + 288 ≤ j → I1 200 j = I 200 j) → (∀ j, j % 16 < p → j < 64 → I1 200 (288 * d + j) = lkS w d j) → SW m_M_keeps 8 [vr 22 186, vi (nI d), vi (nI (288 * d)), vi (nI p), un, un] [] b I1 L (kV K) := by
    intro n
    induction n with
    | zero =>
      intro p hp I1 f1 f2 f3
      obtain rfl : p = 16 := by omega
      refine v_M_keeps_8 ?_
      simp (disch := first | omega | assumption) only [n_lit, n_gLt, n_gLe, n_gEq, n_gEq2, n_gLe2, n_gLt2, n_m1, n_add, n_mul, n_lt, n_le, n_eq, n_cl, n_in, n_rem, n_mlt, n_mle, n_ltm, n_lem, n_eqm, n_meq, n_bit, n_shl, n_b0, n_b1, n_sub, n_inT, nT, nF, lT, lF, eT, eF, not_false_eq_true, not_true_eq_false, sI_at, sI_c, sI_j, aI_at, aI_c, sL_at, sL_c, sL_j, true_and, and_true, not_true_eq_false, not_false_eq_true, forall_const, true_implies, false_implies, implies_true, if_true, if_false, ite_true, ite_false, Bool.not_eq_true, Bool.not_eq_false, Bool.true_eq_false, Bool.false_eq_true, false_and, and_false, or_true, true_or, false_or, or_false]
      exact loopK 7 1 (by omega) (by omega) I1 f1 f2 (fun j hj => f3 j (Nat.mod_lt _ (by decide)) (by omega))
    | succ n ih =>
      intro p hp I1 f1 f2 f3
      have e0 : I1 197 (2 * p) = nI (if p < w.v.n then (stt w d).cn 0 p else 0) := by rw [f1 197 (by decide)]; exact E2 0 (by decide) p (by omega)
      have e1 : I1 197 (2 * p + 1) = nI (if p < w.v.n then (stt w d).cn 1 p else 0) := by rw [f1 197 (by decide)]; exact E2 1 (by decide) p (by omega)
      have go : SW m_M_keeps 8 [vr 22 186, vi (nI d), vi (nI (288 * d)), vi (nI (p + 1)), un, un] [] b (sI (sI (sI (sI I1 200 (288 * d + p) (if p < w.v.n then nI (hc ((stt w d).ha 0 p) ((stt w d).ha 1 p)) else nI 0)) 200 (288 * d + 16 + p) (if p < w.v.n then zI ((stt w d).su p) else nI 0)) 200 (288 * d + 32 + p) (nI (if p < w.v.n then (stt w d).cn 0 p else 0))) 200 (288 * d + 48 + p) (nI (if p < w.v.n then (stt w d).cn 1 p else 0))) L (kV K) := by
        refine ih (p + 1) (by omega) _ (fun a ha => by rw [sI_c ha, sI_c ha, sI_c ha, sI_c ha]; exact f1 a ha) (fun j hj => by rw [sI_j (by omega), sI_j (by omega), sI_j (by omega), sI_j (by omega)]; exact f2 j hj) (fun j hj hj2 => ?_)
        by_cases c : j % 16 = p
        · rcases (by omega : j = p ∨ j = 16 + p ∨ j = 32 + p ∨ j = 48 + p) with rfl | rfl | rfl | rfl
          · rw [sI_j (by omega), sI_j (by omega), sI_j (by omega), sI_at]
            unfold lkS
            rw [if_pos (c := j < 16) (by omega)]
          · rw [← Nat.add_assoc, sI_j (by omega), sI_j (by omega), sI_at]
            unfold lkS
            rw [if_neg (c := 16 + p < 16) (by omega), if_pos (c := 16 + p < 32) (by omega), show 16 + p - 16 = p by omega]
          · rw [← Nat.add_assoc, sI_j (by omega), sI_at]
            unfold lkS
            rw [if_neg (c := 32 + p < 16) (by omega), if_neg (c := 32 + p < 32) (by omega), if_pos (c := 32 + p < 48) (by omega), show 32 + p - 32 = p by omega]
          · rw [← Nat.add_assoc, sI_at]
            unfold lkS
            rw [if_neg (c := 48 + p < 16) (by omega), if_neg (c := 48 + p < 32) (by omega), if_neg (c := 48 + p < 48) (by omega), if_pos (c := 48 + p < 64) (by omega), show 48 + p - 48 = p by omega]
        · rw [sI_j (by omega), sI_j (by omega), sI_j (by omega), sI_j (by omega)]
          exact f3 j (by omega) hj2
      refine v_M_keeps_8 ?_
      simp (disch := first | omega | assumption) only [n_lit, n_gLt, n_gLe, n_gEq, n_gEq2, n_gLe2, n_gLt2, n_m1, n_add, n_mul, n_lt, n_le, n_eq, n_cl, n_in, n_rem, n_mlt, n_mle, n_ltm, n_lem, n_eqm, n_meq, n_bit, n_shl, n_b0, n_b1, n_sub, n_inT, nT, nF, lT, lF, eT, eF, not_false_eq_true, not_true_eq_false, sI_at, sI_c, sI_j, aI_at, aI_c, sL_at, sL_c, sL_j, true_and, and_true, not_true_eq_false, not_false_eq_true, forall_const, true_implies, false_implies, implies_true, if_true, if_false, ite_true, ite_false, Bool.not_eq_true, Bool.not_eq_false, Bool.true_eq_false, Bool.false_eq_true, false_and, and_false, or_true, true_or, false_or, or_false]
      refine cm_people (hfr I1 f1) ?_
      by_cases c : p < w.v.n
      · obtain ⟨g1, g2⟩ := E3 p c
        rw [← f1 190 (by decide)] at g1
        rw [← f1 193 (by decide)] at g2
        rw [if_pos c] at e0 e1
        simp only [if_pos c] at go
        simp (disch := first | omega | assumption) only [n_lit, n_gLt, n_gLe, n_gEq, n_gEq2, n_gLe2, n_gLt2, n_m1, n_add, n_mul, n_lt, n_le, n_eq, n_cl, n_in, n_rem, n_mlt, n_mle, n_ltm, n_lem, n_eqm, n_meq, n_bit, n_shl, n_b0, n_b1, n_sub, n_inT, nT, nF, lT, lF, eT, eF, not_false_eq_true, not_true_eq_false, sI_at, sI_c, sI_j, aI_at, aI_c, sL_at, sL_c, sL_j, true_and, and_true, not_true_eq_false, not_false_eq_true, forall_const, true_implies, false_implies, implies_true, if_true, if_false, ite_true, ite_false, Bool.not_eq_true, Bool.not_eq_false, Bool.true_eq_false, Bool.false_eq_true, false_and, and_false, or_true, true_or, false_or, or_false, g1, g2, e0, e1]
        exact go
      · rw [if_neg c] at e0 e1
        simp only [if_neg c] at go
        simp (disch := first | omega | assumption) only [n_lit, n_gLt, n_gLe, n_gEq, n_gEq2, n_gLe2, n_gLt2, n_m1, n_add, n_mul, n_lt, n_le, n_eq, n_cl, n_in, n_rem, n_mlt, n_mle, n_ltm, n_lem, n_eqm, n_meq, n_bit, n_shl, n_b0, n_b1, n_sub, n_inT, nT, nF, lT, lF, eT, eF, not_false_eq_true, not_true_eq_false, sI_at, sI_c, sI_j, aI_at, aI_c, sL_at, sL_c, sL_j, true_and, and_true, not_true_eq_false, not_false_eq_true, forall_const, true_implies, false_implies, implies_true, if_true, if_false, ite_true, ite_false, Bool.not_eq_true, Bool.not_eq_false, Bool.true_eq_false, Bool.false_eq_true, false_and, and_false, or_true, true_or, false_or, or_false, e0, e1]
        exact go
  refine v_M_keeps_0 ?_
  have g := loopP 16 0 (by omega) I (fun _ _ => rfl) (fun _ _ => rfl) (fun j hj _ => by omega)
  simp (disch := first | omega | assumption) only [n_lit, n_gLt, n_gLe, n_gEq, n_gEq2, n_gLe2, n_gLt2, n_m1, n_add, n_mul, n_lt, n_le, n_eq, n_cl, n_in, n_rem, n_mlt, n_mle, n_ltm, n_lem, n_eqm, n_meq, n_bit, n_shl, n_b0, n_b1, n_sub, n_inT, nT, nF, lT, lF, eT, eF, not_false_eq_true, not_true_eq_false, sI_at, sI_c, sI_j, aI_at, aI_c, sL_at, sL_c, sL_j, true_and, and_true, not_true_eq_false, not_false_eq_true, forall_const, true_implies, false_implies, implies_true, if_true, if_false, ite_true, ite_false, Bool.not_eq_true, Bool.not_eq_false, Bool.true_eq_false, Bool.false_eq_true, false_and, and_false, or_true, true_or, false_or, or_false]
  exact g
/-- a kept day -/
def lkP (w : Wd) (d : Nat) (I : MI) (L : ML) : Prop := (∀ j, j < 288 → I 200 (288 * d + j) = lkS w d j) ∧ L 201 d = sgS w d 288
theorem sgS_eq {w : Wd} {a d : Nat} : ∀ {n : Nat}, (∀ j, j < n → lkS w a j = lkS w d j) → sgS w a n = sgS w d n
  | 0, _ => rfl
  | n + 1, h => by
    unfold sgS
    rw [sgS_eq (fun j hj => h j (by omega)), h n (by omega)]
theorem lk_iff {w : Wd} (ok : w.v.ok 41) {a d : Nat} (ha : a ≤ 200) (hd : d ≤ 200) : alk w (stt w a) (stt w d) = true ↔ ∀ j, j < 288 → lkS w a j = lkS w d j := by
  have hn := ok.1.2
  have cA := fun s p => cn_le w s p a
  have cD := fun s p => cn_le w s p d
  have uA := fun p => su_le w a p
  have uD := fun p => su_le w d p
  have dA : ∀ s k p, (stt w a).du s k p ≤ 369 := fun s k p => by rw [du_T]; exact dueT_le ok s a k p (Nat.le_refl _)
  have dD : ∀ s k p, (stt w d).du s k p ≤ 369 := fun s k p => by rw [du_T]; exact dueT_le ok s d k p (Nat.le_refl _)
  have out : ∀ e s k p, s < 2 → w.v.n ≤ p → (stt w e).du s k p = 0 := fun e s k p hs hp => by
    rw [du_T]
    refine sumN_all0 (fun t ht => ?_)
    have := (ok.2.2.2.2.2.2 t ht).2.1
    unfold dueT
    rw [if_neg (by omega)]
  have hcE : ∀ h0 h1 k0 k1 : Bool, nI (hc h0 h1) = nI (hc k0 k1) ↔ h0 = k0 ∧ h1 = k1 := by decide
  unfold alk alA alD
  rw [Bool.and_eq_true, Bool.and_eq_true, allN_iff, allN_iff, allN_iff]
  constructor
  · rintro ⟨h1, h2, h3⟩ j hj
    have h1 := fun p hp => of_decide_eq_true (h1 p hp)
    have hdu : ∀ s, s < 2 → ∀ k, 1 ≤ k → ∀ p, (stt w a).du s k p = (stt w d).du s k p := by
      intro s hs k hk p
      by_cases c : p < w.v.n
      · by_cases c2 : k ≤ 6
        · rcases (by omega : s = 0 ∨ s = 1) with rfl | rfl
          · have := of_decide_eq_true (allN_iff.mp (h2 (k - 1) (by omega)) p c)
            rw [show k - 1 + 1 = k by omega] at this
            exact this
          · have := of_decide_eq_true (allN_iff.mp (h3 (k - 1) (by omega)) p c)
            rw [show k - 1 + 1 = k by omega] at this
            exact this
        · rw [du_big ok hs p a k (by omega), du_big ok hs p d k (by omega)]
      · rw [out a s k p hs (by omega), out d s k p hs (by omega)]
    unfold lkS
    by_cases c1 : j < 16
    · rw [if_pos c1, if_pos c1]
      by_cases c : j < w.v.n
      · rw [if_pos c, if_pos c, (h1 j c).1, (h1 j c).2.1]
      · rw [if_neg c, if_neg c]
    · rw [if_neg c1, if_neg c1]
      by_cases c2 : j < 32
      · rw [if_pos c2, if_pos c2]
        by_cases c : j - 16 < w.v.n
        · rw [if_pos c, if_pos c, (h1 _ c).2.2.2.2]
        · rw [if_neg c, if_neg c]
      · rw [if_neg c2, if_neg c2]
        by_cases c3 : j < 48
        · rw [if_pos c3, if_pos c3]
          by_cases c : j - 32 < w.v.n
          · rw [if_pos c, if_pos c, (h1 _ c).2.2.1]
          · rw [if_neg c, if_neg c]
        · rw [if_neg c3, if_neg c3]
          by_cases c4 : j < 64
          · rw [if_pos c4, if_pos c4]
            by_cases c : j - 48 < w.v.n
            · rw [if_pos c, if_pos c, (h1 _ c).2.2.2.1]
            · rw [if_neg c, if_neg c]
          · rw [if_neg c4, if_neg c4, hdu _ (Nat.mod_lt _ (by decide)) _ (by omega) _]
  · intro h
    have hdu : ∀ s, s < 2 → ∀ k, k < 6 → ∀ p, p < w.v.n → (stt w a).du s (k + 1) p = (stt w d).du s (k + 1) p := by
      intro s hs k hk p hp
      have := h (64 + 32 * k + 2 * p + s) (by omega)
      unfold lkS at this
      rw [if_neg (by omega), if_neg (by omega), if_neg (by omega), if_neg (by omega), if_neg (by omega), if_neg (by omega), if_neg (by omega), if_neg (by omega), show (64 + 32 * k + 2 * p + s - 64) % 32 % 2 = s by omega, show (64 + 32 * k + 2 * p + s - 64) / 32 + 1 = k + 1 by omega, show (64 + 32 * k + 2 * p + s - 64) % 32 / 2 = p by omega, n_eq (by have := dA s (k + 1) p; omega) (by have := dD s (k + 1) p; omega)] at this
      exact this
    refine ⟨fun p hp => decide_eq_true ?_, fun k hk => allN_iff.mpr (fun p hp => decide_eq_true (hdu 0 (by decide) k hk p hp)), fun k hk => allN_iff.mpr (fun p hp => decide_eq_true (hdu 1 (by decide) k hk p hp))⟩
    have q1 := h p (by omega)
    have q2 := h (16 + p) (by omega)
    have q3 := h (32 + p) (by omega)
    have q4 := h (48 + p) (by omega)
    unfold lkS at q1 q2 q3 q4
    rw [if_pos (c := p < 16) (by omega), if_pos (c := p < 16) (by omega), if_pos hp, if_pos hp, hcE] at q1
    rw [if_neg (c := 16 + p < 16) (by omega), if_neg (c := 16 + p < 16) (by omega), if_pos (c := 16 + p < 32) (by omega), if_pos (c := 16 + p < 32) (by omega), show 16 + p - 16 = p by omega, if_pos hp, if_pos hp, z_eq (by have := uA p; omega) (by have := uA p; omega) (by have := uD p; omega) (by have := uD p; omega)] at q2
    rw [if_neg (c := 32 + p < 16) (by omega), if_neg (c := 32 + p < 16) (by omega), if_neg (c := 32 + p < 32) (by omega), if_neg (c := 32 + p < 32) (by omega), if_pos (c := 32 + p < 48) (by omega), if_pos (c := 32 + p < 48) (by omega), show 32 + p - 32 = p by omega, if_pos hp, if_pos hp, n_eq (by have := cA 0 p; omega) (by have := cD 0 p; omega)] at q3
    rw [if_neg (c := 48 + p < 16) (by omega), if_neg (c := 48 + p < 16) (by omega), if_neg (c := 48 + p < 32) (by omega), if_neg (c := 48 + p < 32) (by omega), if_neg (c := 48 + p < 48) (by omega), if_neg (c := 48 + p < 48) (by omega), if_pos (c := 48 + p < 64) (by omega), if_pos (c := 48 + p < 64) (by omega), show 48 + p - 48 = p by omega, if_pos hp, if_pos hp, n_eq (by have := cA 1 p; omega) (by have := cD 1 p; omega)] at q4
    exact ⟨q1.1, q1.2, q3, q4, q2⟩
theorem cm_areLike {w : Wd} (ok : w.v.ok 41) {a d : Nat} (ha : a ≤ 200) (hd : d ≤ 200) {b : Bool} {I : MI} {L : ML} {K : Int32 → Bool → MI → ML → Prop} (ra : lkP w a I L) (rd : lkP w d I L) (hK : K (nI (alk w (stt w a) (stt w d)).toNat) b I L) : CI m_M_areLike [vr 22 186, vi (nI a), vi (nI d)] b I L K := by
  obtain ⟨a1, a2⟩ := ra
  obtain ⟨d1, d2⟩ := rd
  have loop : ∀ n i, i + n = 288 → ∀ c : Bool, (∀ r : Bool, (r = true ↔ c = true ∧ ∀ j, i ≤ j → j < 288 → lkS w a j = lkS w d j) → K (nI r.toNat) b I L) → SW m_M_areLike 25 [vr 22 186, vi (nI a), vi (nI d), vi (nI c.toNat), vi (nI i)] [] b I L (kI K) := by
    intro n
    induction n with
    | zero =>
      intro i hi c k
      obtain rfl : i = 288 := by omega
      have := k c ⟨fun q => ⟨q, fun p h1 h2 => by omega⟩, fun q => q.1⟩
      refine v_M_areLike_25 ?_
      cases c
      · simp (disch := first | omega | assumption) only [n_lit, n_gLt, n_gLe, n_gEq, n_gEq2, n_gLe2, n_gLt2, n_m1, n_add, n_mul, n_lt, n_le, n_eq, n_cl, n_in, n_rem, n_mlt, n_mle, n_ltm, n_lem, n_eqm, n_meq, n_bit, n_shl, n_b0, n_b1, n_sub, n_inT, nT, nF, lT, lF, eT, eF, not_false_eq_true, not_true_eq_false, sI_at, sI_c, sI_j, aI_at, aI_c, sL_at, sL_c, sL_j, true_and, and_true, not_true_eq_false, not_false_eq_true, forall_const, true_implies, false_implies, implies_true, if_true, if_false, ite_true, ite_false, Bool.not_eq_true, Bool.not_eq_false, Bool.true_eq_false, Bool.false_eq_true, false_and, and_false, or_true, true_or, false_or, or_false, Bool.toNat_false]
        exact this
      · simp (disch := first | omega | assumption) only [n_lit, n_gLt, n_gLe, n_gEq, n_gEq2, n_gLe2, n_gLt2, n_m1, n_add, n_mul, n_lt, n_le, n_eq, n_cl, n_in, n_rem, n_mlt, n_mle, n_ltm, n_lem, n_eqm, n_meq, n_bit, n_shl, n_b0, n_b1, n_sub, n_inT, nT, nF, lT, lF, eT, eF, not_false_eq_true, not_true_eq_false, sI_at, sI_c, sI_j, aI_at, aI_c, sL_at, sL_c, sL_j, true_and, and_true, not_true_eq_false, not_false_eq_true, forall_const, true_implies, false_implies, implies_true, if_true, if_false, ite_true, ite_false, Bool.not_eq_true, Bool.not_eq_false, Bool.true_eq_false, Bool.false_eq_true, false_and, and_false, or_true, true_or, false_or, or_false, Bool.toNat_true]
        exact this
    | succ n ih =>
      intro i hi c k
      refine v_M_areLike_25 ?_
      cases c with
      | false =>
        have := k false ⟨fun q => absurd q (by decide), fun q => absurd q.1 (by decide)⟩
        simp (disch := first | omega | assumption) only [n_lit, n_gLt, n_gLe, n_gEq, n_gEq2, n_gLe2, n_gLt2, n_m1, n_add, n_mul, n_lt, n_le, n_eq, n_cl, n_in, n_rem, n_mlt, n_mle, n_ltm, n_lem, n_eqm, n_meq, n_bit, n_shl, n_b0, n_b1, n_sub, n_inT, nT, nF, lT, lF, eT, eF, not_false_eq_true, not_true_eq_false, sI_at, sI_c, sI_j, aI_at, aI_c, sL_at, sL_c, sL_j, true_and, and_true, not_true_eq_false, not_false_eq_true, forall_const, true_implies, false_implies, implies_true, if_true, if_false, ite_true, ite_false, Bool.not_eq_true, Bool.not_eq_false, Bool.true_eq_false, Bool.false_eq_true, false_and, and_false, or_true, true_or, false_or, or_false, Bool.toNat_false]
        exact this
      | true =>
        have ea := a1 i (by omega)
        have ed := d1 i (by omega)
        by_cases q : lkS w a i = lkS w d i
        · have nxt := ih (i + 1) (by omega) true (fun r hr => k r (by
            rw [hr]
            refine and_congr Iff.rfl ⟨fun h j j1 j2 => ?_, fun h j j1 j2 => h j (by omega) j2⟩
            by_cases e : j = i
            · subst e; exact q
            · exact h j (by omega) j2))
          simp (disch := first | omega | assumption) only [n_lit, n_gLt, n_gLe, n_gEq, n_gEq2, n_gLe2, n_gLt2, n_m1, n_add, n_mul, n_lt, n_le, n_eq, n_cl, n_in, n_rem, n_mlt, n_mle, n_ltm, n_lem, n_eqm, n_meq, n_bit, n_shl, n_b0, n_b1, n_sub, n_inT, nT, nF, lT, lF, eT, eF, not_false_eq_true, not_true_eq_false, sI_at, sI_c, sI_j, aI_at, aI_c, sL_at, sL_c, sL_j, true_and, and_true, not_true_eq_false, not_false_eq_true, forall_const, true_implies, false_implies, implies_true, if_true, if_false, ite_true, ite_false, Bool.not_eq_true, Bool.not_eq_false, Bool.true_eq_false, Bool.false_eq_true, false_and, and_false, or_true, true_or, false_or, or_false, Bool.toNat_true, ea, ed, q]
          exact nxt
        · have nxt := ih (i + 1) (by omega) false (fun r hr => k r (by
            rw [hr]
            constructor
            · exact fun h => absurd h.1 (by decide)
            · exact fun h => absurd (h.2 i (Nat.le_refl _) (by omega)) q))
          simp (disch := first | omega | assumption) only [n_lit, n_gLt, n_gLe, n_gEq, n_gEq2, n_gLe2, n_gLt2, n_m1, n_add, n_mul, n_lt, n_le, n_eq, n_cl, n_in, n_rem, n_mlt, n_mle, n_ltm, n_lem, n_eqm, n_meq, n_bit, n_shl, n_b0, n_b1, n_sub, n_inT, nT, nF, lT, lF, eT, eF, not_false_eq_true, not_true_eq_false, sI_at, sI_c, sI_j, aI_at, aI_c, sL_at, sL_c, sL_j, true_and, and_true, not_true_eq_false, not_false_eq_true, forall_const, true_implies, false_implies, implies_true, if_true, if_false, ite_true, ite_false, Bool.not_eq_true, Bool.not_eq_false, Bool.true_eq_false, Bool.false_eq_true, false_and, and_false, or_true, true_or, false_or, or_false, Bool.toNat_true, ea, ed, q]
          exact nxt
  have hb : ∀ r : Bool, (r = true ↔ ∀ j, j < 288 → lkS w a j = lkS w d j) → r = alk w (stt w a) (stt w d) := fun r hr => by
    cases h : alk w (stt w a) (stt w d) with
    | true => exact hr.mpr ((lk_iff ok ha hd).mp h)
    | false =>
      refine Bool.eq_false_iff.mpr (fun q => ?_)
      rw [(lk_iff ok ha hd).mpr (hr.mp q)] at h
      cases h
  refine v_M_areLike_0 ?_
  by_cases q : sgS w a 288 = sgS w d 288
  · have g := loop 288 0 (by omega) true (fun r hr => by
      rw [hb r (hr.trans ⟨fun h j hj => h.2 j (Nat.zero_le _) hj, fun h => ⟨rfl, fun j _ hj => h j hj⟩⟩)]
      exact hK)
    simp (disch := first | omega | assumption) only [n_lit, n_gLt, n_gLe, n_gEq, n_gEq2, n_gLe2, n_gLt2, n_m1, n_add, n_mul, n_lt, n_le, n_eq, n_cl, n_in, n_rem, n_mlt, n_mle, n_ltm, n_lem, n_eqm, n_meq, n_bit, n_shl, n_b0, n_b1, n_sub, n_inT, nT, nF, lT, lF, eT, eF, not_false_eq_true, not_true_eq_false, sI_at, sI_c, sI_j, aI_at, aI_c, sL_at, sL_c, sL_j, true_and, and_true, not_true_eq_false, not_false_eq_true, forall_const, true_implies, false_implies, implies_true, if_true, if_false, ite_true, ite_false, Bool.not_eq_true, Bool.not_eq_false, Bool.true_eq_false, Bool.false_eq_true, false_and, and_false, or_true, true_or, false_or, or_false, a2, d2, lg_eq, q]
    exact g
  · have g := loop 288 0 (by omega) false (fun r hr => by
      rw [hb r (hr.trans ⟨fun h => absurd h.1 (by decide), fun h => absurd (sgS_eq h) q⟩)]
      exact hK)
    simp (disch := first | omega | assumption) only [n_lit, n_gLt, n_gLe, n_gEq, n_gEq2, n_gLe2, n_gLt2, n_m1, n_add, n_mul, n_lt, n_le, n_eq, n_cl, n_in, n_rem, n_mlt, n_mle, n_ltm, n_lem, n_eqm, n_meq, n_bit, n_shl, n_b0, n_b1, n_sub, n_inT, nT, nF, lT, lF, eT, eF, not_false_eq_true, not_true_eq_false, sI_at, sI_c, sI_j, aI_at, aI_c, sL_at, sL_c, sL_j, true_and, and_true, not_true_eq_false, not_false_eq_true, forall_const, true_implies, false_implies, implies_true, if_true, if_false, ite_true, ite_false, Bool.not_eq_true, Bool.not_eq_false, Bool.true_eq_false, Bool.false_eq_true, false_and, and_false, or_true, true_or, false_or, or_false, a2, d2, lg_eq, q]
    exact g
