/-! WHAT IS SAID GOES OUT, in the reference -/
theorem sumN_one {f f' : Nat → Nat} {t0 : Nat} : ∀ {n : Nat}, t0 < n → (∀ t, t ≠ t0 → f' t = f t) → f t0 = 0 → sumN f' n = sumN f n + f' t0
  | 0, h, _, _ => absurd h (Nat.not_lt_zero _)
  | n + 1, h, h1, h2 => by
    unfold sumN
    by_cases e : t0 = n
    · subst e
      rw [sumN_cong (fun i hi => h1 i (by omega)), h2]
      omega
    · rw [sumN_one (by omega : t0 < n) h1 h2, h1 n (fun q => e q.symm)]
      omega
theorem minN_one {f f' : Nat → Nat} {t0 z n : Nat} (h : t0 < n) (h1 : ∀ t, t ≠ t0 → f' t = f t) (h2 : z ≤ f t0) : minN z f' n = if f' t0 < minN z f n then f' t0 else minN z f n := by
  refine eq_of_le_iff (fun q => ?_)
  have key : q ≤ minN z f' n ↔ q ≤ minN z f n ∧ q ≤ f' t0 := by
    rw [minN_iff, minN_iff]
    constructor
    · rintro ⟨g1, g2⟩
      refine ⟨⟨g1, fun i hi => ?_⟩, g2 t0 h⟩
      by_cases e : i = t0
      · subst e; omega
      · rw [← h1 i e]; exact g2 i hi
    · rintro ⟨⟨g1, g2⟩, g3⟩
      refine ⟨g1, fun i hi => ?_⟩
      by_cases e : i = t0
      · subst e; exact g3
      · rw [h1 i e]; exact g2 i hi
  rw [key]
  split
  · exact ⟨fun g => g.2, fun g => ⟨by omega, g⟩⟩
  · exact ⟨fun g => g.1, fun g => ⟨g, by omega⟩⟩
theorem bf_le (w : Wd) (s k p d : Nat) : (stp w d).bf s k p ≤ 99 := by
  cases d with
  | zero => exact Nat.le_refl _
  | succ d =>
    show (stt w d).bf s k p ≤ 99
    rw [bf_hist]
    exact (minN_iff.mp (Nat.le_refl _)).1
/-- what comes by a tie that is done, and by whom -/
def outT (w : Wd) (d s k p : Nat) (D : Nat → Nat → Bool) (t : Nat) : Nat := if (w.v.to t = p ∧ w.v.dl s t = k) ∧ (D s t && goS w d (stp w d) s t) = true then w.v.st t else 0
def outF (w : Wd) (d s k p : Nat) (D : Nat → Nat → Bool) (t : Nat) : Nat := if (w.v.to t = p ∧ w.v.dl s t = k) ∧ (D s t && goS w d (stp w d) s t) = true then w.v.fr t else 99
/-- the table of what is to come, while a day's sayings go out -/
def tbP (w : Wd) (d : Nat) (D : Nat → Nat → Bool) (I : MI) : Prop := ∀ k, 1 ≤ k → k ≤ 8 → ∀ s, s < 2 → ∀ p, p < 16 → I 195 (32 * ((d + k) % 8) + 2 * p + s) = nI ((stp w d).du s (k + 1) p + sumN (outT w d s k p D) w.v.m) ∧ I 196 (32 * ((d + k) % 8) + 2 * p + s) = nI (minN ((stp w d).bf s (k + 1) p) (outF w d s k p D) w.v.m)
theorem tbP_cong {w : Wd} {d : Nat} {D D' : Nat → Nat → Bool} {I I' : MI} (h1 : I' 195 = I 195) (h2 : I' 196 = I 196) (h : ∀ s, s < 2 → ∀ t, t < w.v.m → (D' s t && goS w d (stp w d) s t) = (D s t && goS w d (stp w d) s t)) (T : tbP w d D I) : tbP w d D' I' := by
  intro k k1 k2 s hs p hp
  have e1 : sumN (outT w d s k p D') w.v.m = sumN (outT w d s k p D) w.v.m := sumN_cong (fun t ht => by unfold outT; rw [h s hs t ht])
  have e2 : minN ((stp w d).bf s (k + 1) p) (outF w d s k p D') w.v.m = minN ((stp w d).bf s (k + 1) p) (outF w d s k p D) w.v.m := by
    refine eq_of_le_iff (fun q => ?_)
    rw [minN_iff, minN_iff]
    refine and_congr Iff.rfl (forall_congr' (fun t => imp_congr_right (fun ht => ?_)))
    unfold outF
    rw [h s hs t ht]
  rw [h1, h2, e1, e2]
  exact T k k1 k2 s hs p hp
theorem cm_carries {w : Wd} {d s t0 : Nat} {D : Nat → Nat → Bool} {b : Bool} {I : MI} {L : ML} {K : Bool → MI → ML → Prop} (ok : w.v.ok 41) (hd : d ≤ 200) (hs : s < 2) (ht : t0 < w.v.m) (hD : D s t0 = false) (hg : goS w d (stp w d) s t0 = true) (T : tbP w d D I) (hK : ∀ I', (∀ a, a ≠ 195 → a ≠ 196 → I' a = I a) → tbP w d (fun s' t' => D s' t' || (decide (s' = s) && decide (t' = t0))) I' → K b I' L) : CV m_M_carries [vr 22 186, vi (nI (w.v.fr t0)), vi (nI (w.v.to t0)), vi (nI d), vi (nI s), vi (nI (w.v.dl s t0)), vi (nI (w.v.st t0))] b I L K := by
  have hdl := dl_le ok hs ht
  obtain ⟨o1, o2, o3, o4, o5, o6⟩ := ok.2.2.2.2.2.2 t0 ht
  have hn := ok.1.2
  obtain ⟨e1, e2⟩ := T (w.v.dl s t0) hdl.1 (by omega) s hs (w.v.to t0) (by omega)
  have hb : minN ((stp w d).bf s (w.v.dl s t0 + 1) (w.v.to t0)) (outF w d s (w.v.dl s t0) (w.v.to t0) D) w.v.m ≤ 99 := Nat.le_trans (minN_iff.mp (Nat.le_refl _)).1 (bf_le w s _ _ d)
  -- the table behind it
  have made : ∀ I' : MI, (∀ j, j ≠ 32 * ((d + w.v.dl s t0) % 8) + 2 * w.v.to t0 + s → I' 195 j = I 195 j ∧ I' 196 j = I 196 j) → I' 195 (32 * ((d + w.v.dl s t0) % 8) + 2 * w.v.to t0 + s) = nI ((stp w d).du s (w.v.dl s t0 + 1) (w.v.to t0) + sumN (outT w d s (w.v.dl s t0) (w.v.to t0) D) w.v.m + w.v.st t0) → I' 196 (32 * ((d + w.v.dl s t0) % 8) + 2 * w.v.to t0 + s) = nI (if w.v.fr t0 < minN ((stp w d).bf s (w.v.dl s t0 + 1) (w.v.to t0)) (outF w d s (w.v.dl s t0) (w.v.to t0) D) w.v.m then w.v.fr t0 else minN ((stp w d).bf s (w.v.dl s t0 + 1) (w.v.to t0)) (outF w d s (w.v.dl s t0) (w.v.to t0) D) w.v.m) → tbP w d (fun s' t' => D s' t' || (decide (s' = s) && decide (t' = t0))) I' := by
    intro I' h1 h2 h3 k k1 k2 s' hs' p hp
    by_cases c : (k = w.v.dl s t0 ∧ s' = s) ∧ p = w.v.to t0
    · obtain ⟨⟨rfl, rfl⟩, rfl⟩ := c
      rw [h2, h3]
      have oth : ∀ t, t ≠ t0 → ((D s' t || (decide (s' = s') && decide (t = t0))) && goS w d (stp w d) s' t) = (D s' t && goS w d (stp w d) s' t) := fun t q => by
        rw [decide_eq_false q, Bool.and_false, Bool.or_false]
      have own : ((D s' t0 || (decide (s' = s') && decide (t0 = t0))) && goS w d (stp w d) s' t0) = true := by
        rw [decide_eq_true rfl, decide_eq_true rfl, hg]
        simp
      have hs1 := sumN_one (f := outT w d s' (w.v.dl s' t0) (w.v.to t0) D) (f' := outT w d s' (w.v.dl s' t0) (w.v.to t0) (fun s'' t' => D s'' t' || (decide (s'' = s') && decide (t' = t0)))) ht (fun t q => by unfold outT; dsimp only; rw [oth t q]) (by unfold outT; rw [hD, Bool.false_and, if_neg (by simp)])
      have hs2 := minN_one (z := (stp w d).bf s' (w.v.dl s' t0 + 1) (w.v.to t0)) (f := outF w d s' (w.v.dl s' t0) (w.v.to t0) D) (f' := outF w d s' (w.v.dl s' t0) (w.v.to t0) (fun s'' t' => D s'' t' || (decide (s'' = s') && decide (t' = t0)))) ht (fun t q => by unfold outF; dsimp only; rw [oth t q]) (by unfold outF; rw [hD, Bool.false_and, if_neg (by simp)]; exact bf_le w s' _ _ d)
      have e3 : outT w d s' (w.v.dl s' t0) (w.v.to t0) (fun s'' t' => D s'' t' || (decide (s'' = s') && decide (t' = t0))) t0 = w.v.st t0 := by
        unfold outT
        dsimp only
        rw [if_pos ⟨⟨rfl, rfl⟩, own⟩]
      have e4 : outF w d s' (w.v.dl s' t0) (w.v.to t0) (fun s'' t' => D s'' t' || (decide (s'' = s') && decide (t' = t0))) t0 = w.v.fr t0 := by
        unfold outF
        dsimp only
        rw [if_pos ⟨⟨rfl, rfl⟩, own⟩]
      rw [hs1, hs2, e3, e4, Nat.add_assoc]
      exact ⟨rfl, rfl⟩
    · obtain ⟨g1, g2⟩ := h1 (32 * ((d + k) % 8) + 2 * p + s') (by omega)
      rw [g1, g2]
      obtain ⟨q1, q2⟩ := T k k1 k2 s' hs' p hp
      rw [q1, q2]
      have same : ∀ t, (w.v.to t = p ∧ w.v.dl s' t = k) → ((D s' t || (decide (s' = s) && decide (t = t0))) && goS w d (stp w d) s' t) = (D s' t && goS w d (stp w d) s' t) := fun t q => by
        by_cases e : s' = s ∧ t = t0
        · obtain ⟨rfl, rfl⟩ := e
          exact absurd ⟨⟨q.2.symm, rfl⟩, q.1.symm⟩ c
        · have : (decide (s' = s) && decide (t = t0)) = false := by
            rw [Bool.and_eq_false_iff, decide_eq_false_iff_not, decide_eq_false_iff_not]
            by_cases e1 : s' = s
            · exact Or.inr (fun q => e ⟨e1, q⟩)
            · exact Or.inl e1
          rw [this, Bool.or_false]
      constructor
      · congr 2
        refine sumN_cong (fun t _ => ?_)
        unfold outT
        dsimp only
        by_cases e : w.v.to t = p ∧ w.v.dl s' t = k
        · rw [same t e]
        · rw [if_neg (fun q => e q.1), if_neg (fun q => e q.1)]
      · congr 1
        refine eq_of_le_iff (fun q => ?_)
        rw [minN_iff, minN_iff]
        refine and_congr Iff.rfl (forall_congr' (fun t => imp_congr_right (fun _ => ?_)))
        unfold outF
        dsimp only
        by_cases e : w.v.to t = p ∧ w.v.dl s' t = k
        · rw [same t e]
        · rw [if_neg (fun q => e q.1), if_neg (fun q => e q.1)]
  refine v_M_carries_0 ?_
  by_cases c : w.v.fr t0 < minN ((stp w d).bf s (w.v.dl s t0 + 1) (w.v.to t0)) (outF w d s (w.v.dl s t0) (w.v.to t0) D) w.v.m
  · rw [if_pos c] at made
    simp (disch := first | omega | assumption) only [n_lit, n_gLt, n_gLe, n_gEq, n_gEq2, n_gLe2, n_gLt2, n_m1, n_add, n_mul, n_lt, n_le, n_eq, n_cl, n_in, n_rem, n_mlt, n_mle, n_ltm, n_lem, n_eqm, n_meq, n_bit, n_shl, n_b0, n_b1, n_sub, n_inT, nT, nF, lT, lF, eT, eF, not_false_eq_true, not_true_eq_false, sI_at, sI_c, sI_j, aI_at, aI_c, sL_at, sL_c, sL_j, true_and, and_true, not_true_eq_false, not_false_eq_true, forall_const, true_implies, false_implies, implies_true, if_true, if_false, ite_true, ite_false, Bool.not_eq_true, Bool.not_eq_false, Bool.true_eq_false, Bool.false_eq_true, false_and, and_false, or_true, true_or, false_or, or_false, e1, e2]
    refine hK _ (fun a a1 a2 => by rw [sI_c a2, sI_c a1]) (made _ (fun j hj => ⟨by rw [sI_c (by decide), sI_j hj], by rw [sI_j hj, sI_c (by decide)]⟩) (by rw [sI_c (by decide), sI_at]) (sI_at _ _ _ _))
  · rw [if_neg c] at made
    simp (disch := first | omega | assumption) only [n_lit, n_gLt, n_gLe, n_gEq, n_gEq2, n_gLe2, n_gLt2, n_m1, n_add, n_mul, n_lt, n_le, n_eq, n_cl, n_in, n_rem, n_mlt, n_mle, n_ltm, n_lem, n_eqm, n_meq, n_bit, n_shl, n_b0, n_b1, n_sub, n_inT, nT, nF, lT, lF, eT, eF, not_false_eq_true, not_true_eq_false, sI_at, sI_c, sI_j, aI_at, aI_c, sL_at, sL_c, sL_j, true_and, and_true, not_true_eq_false, not_false_eq_true, forall_const, true_implies, false_implies, implies_true, if_true, if_false, ite_true, ite_false, Bool.not_eq_true, Bool.not_eq_false, Bool.true_eq_false, Bool.false_eq_true, false_and, and_false, or_true, true_or, false_or, or_false, e1, e2]
    refine hK _ (fun a a1 a2 => by rw [sI_c a2, sI_c a1]) (made _ (fun j hj => ⟨by rw [sI_c (by decide), sI_j hj], by rw [sI_j hj, sI_c (by decide)]⟩) (by rw [sI_c (by decide), sI_at]) (sI_at _ _ _ _))
theorem cm_speaks {v : Vil} {t : Tel} {x : Wi} {o : Nat} {w : Wd} {d s p : Nat} {D : Nat → Nat → Bool} {b : Bool} {I : MI} {L : ML} {K : Bool → MI → ML → Prop} (h : WM v t x o w I L) (hd : d ≤ 200) (hs : s < 2) (hp : p < w.v.n) (hsa : saS w d (stp w d) s p = true) (hD : ∀ t, w.v.fr t = p → D s t = false) (T : tbP w d D I) (hK : ∀ I', (∀ a, a ≠ 195 → a ≠ 196 → I' a = I a) → tbP w d (fun s' t' => D s' t' || (decide (s' = s) && decide (w.v.fr t' = p))) I' → K b I' L) : CV m_M_speaks [vr 22 186, vi (nI p), vi (nI d), vi (nI s)] b I L K := by
  have H := h
  obtain ⟨⟨ew, okw, okv, okt, okx⟩, ⟨a2, a3, a4⟩, -, -, ⟨⟨n1, n2, n3, n4⟩, m1, -, -, m5⟩⟩ := h
  have hm := okv.2.1
  have hn := okw.1.2
  have hmw : v.m ≤ w.v.m := by rcases m5 with ⟨_, q⟩ | ⟨_, q, _⟩ <;> omega
  have esl : I 187 (o + 2) = nI w.v.sl := by rw [n2]; exact a4.1.2.2.1
  have hsl := okw.2.2.1
  have goE : ∀ t, w.v.fr t = p → goS w d (stp w d) s t = w.op d t := fun t q => by
    unfold goS
    rw [q, hsa, Bool.true_and]
  have loop : ∀ n i, i + n = v.m → ∀ I1 : MI, (∀ a, a ≠ 195 → a ≠ 196 → I1 a = I a) → tbP w d (fun s' t' => D s' t' || (decide (s' = s) && (decide (w.v.fr t' = p) && decide (t' < i)))) I1 → SW m_M_speaks 3 [vr 22 186, vi (nI p), vi (nI d), vi (nI s), vi (nI i)] [] b I1 L (kV K) := by
    intro n
    induction n with
    | zero =>
      intro i hi I1 f1 T1
      obtain rfl : i = v.m := by omega
      have H1 : WM v t x o w I1 L := H.fr (fun j _ => by rw [f1 186 (by decide) (by decide)]) (f1 187 (by decide) (by decide)) rfl
      have e23 : I1 186 23 = I 186 23 := by rw [f1 186 (by decide) (by decide)]
      have e24 : I1 186 24 = I 186 24 := by rw [f1 186 (by decide) (by decide)]
      have e11 : I1 186 11 = nI o := by rw [f1 186 (by decide) (by decide)]; exact a3
      have esl1 : I1 187 (o + 2) = nI w.v.sl := by rw [f1 187 (by decide) (by decide)]; exact esl
      refine v_M_speaks_3 (cm_ties H1 ?_)
      have done : (∀ t, t < w.v.m → ¬ t < v.m → w.v.fr t = p → goS w d (stp w d) s t = false) → K b I1 L := fun q => hK I1 f1 (tbP_cong (I := I1) rfl rfl (fun s' hs' t' ht' => by
        by_cases c1 : s' = s
        · subst c1
          by_cases c2 : w.v.fr t' = p
          · by_cases c3 : t' < v.m
            · simp [c2, c3]
            · rw [q t' ht' c3 c2, Bool.and_false, Bool.and_false]
          · simp [c2]
        · simp [c1]) T1)
      rcases m5 with ⟨q1, q2⟩ | ⟨⟨q1, q2⟩, q3, q4, q5, q6, q7⟩
      · have g := done (fun t' h1 h2 => by omega)
        rw [q1] at e23
        have z : ¬ nM = nI p := by rw [n_meq (by omega)]; exact id
        simp (disch := first | omega | assumption) only [n_lit, n_gLt, n_gLe, n_gEq, n_gEq2, n_gLe2, n_gLt2, n_m1, n_add, n_mul, n_lt, n_le, n_eq, n_cl, n_in, n_rem, n_mlt, n_mle, n_ltm, n_lem, n_eqm, n_meq, n_bit, n_shl, n_b0, n_b1, n_sub, n_inT, nT, nF, lT, lF, eT, eF, not_false_eq_true, not_true_eq_false, sI_at, sI_c, sI_j, aI_at, aI_c, sL_at, sL_c, sL_j, true_and, and_true, not_true_eq_false, not_false_eq_true, forall_const, true_implies, false_implies, implies_true, if_true, if_false, ite_true, ite_false, Bool.not_eq_true, Bool.not_eq_false, Bool.true_eq_false, Bool.false_eq_true, false_and, and_false, or_true, true_or, false_or, or_false, e23, z]
        exact g
      · rw [q1] at e23
        rw [q2] at e24
        have hfr := (okw.2.2.2.2.2.2 v.m (by omega)).1
        have hto := (okw.2.2.2.2.2.2 v.m (by omega)).2.1
        by_cases c : w.v.fr v.m = p
        · have hop : w.op d v.m = true := by
            rw [ew]
            show (!(x.dd v.m || (t.wall d v.m && decide (v.m < v.m)) || (x.ba v.m && decide (x.bf ≤ d)))) = true
            rw [q6, q7, decide_eq_false (Nat.lt_irrefl _)]
            simp
          have go := cm_carries (K := K) (L := L) (b := b) okw hd hs (t0 := v.m) (by omega) (D := fun s' t' => D s' t' || (decide (s' = s) && (decide (w.v.fr t' = p) && decide (t' < v.m)))) (I := I1) (by show (D s v.m || _) = false; rw [hD v.m c, decide_eq_false (Nat.lt_irrefl _)]; simp) (by rw [goE v.m c]; exact hop) T1 (fun I2 f2 T2 => hK I2 (fun a a1 a2 => (f2 a a1 a2).trans (f1 a a1 a2)) (tbP_cong (I := I2) rfl rfl (fun s' hs' t' ht' => by
            by_cases c1 : s' = s
            · subst c1
              by_cases c2 : w.v.fr t' = p
              · by_cases c3 : t' < v.m
                · simp [c2, c3]
                · have : t' = v.m := by omega
                  subst this
                  simp [c2]
              · have c4 : t' ≠ v.m := by rintro rfl; exact c2 c
                simp [c2, c4]
            · simp [c1]) T2))
          have e9 : w.v.dl s v.m = 1 + s * w.v.sl := by
            unfold Vil.dl
            rw [q4]
          rw [c, e9, q5] at go
          simp (disch := first | omega | assumption) only [n_lit, n_gLt, n_gLe, n_gEq, n_gEq2, n_gLe2, n_gLt2, n_m1, n_add, n_mul, n_lt, n_le, n_eq, n_cl, n_in, n_rem, n_mlt, n_mle, n_ltm, n_lem, n_eqm, n_meq, n_bit, n_shl, n_b0, n_b1, n_sub, n_inT, nT, nF, lT, lF, eT, eF, not_false_eq_true, not_true_eq_false, sI_at, sI_c, sI_j, aI_at, aI_c, sL_at, sL_c, sL_j, true_and, and_true, not_true_eq_false, not_false_eq_true, forall_const, true_implies, false_implies, implies_true, if_true, if_false, ite_true, ite_false, Bool.not_eq_true, Bool.not_eq_false, Bool.true_eq_false, Bool.false_eq_true, false_and, and_false, or_true, true_or, false_or, or_false, e23, c, e24, e11, esl1]
          exact go
        · have g := done (fun t' h1 h2 h3 => by
            have : t' = v.m := by omega
            subst this
            exact absurd h3 c)
          simp (disch := first | omega | assumption) only [n_lit, n_gLt, n_gLe, n_gEq, n_gEq2, n_gLe2, n_gLt2, n_m1, n_add, n_mul, n_lt, n_le, n_eq, n_cl, n_in, n_rem, n_mlt, n_mle, n_ltm, n_lem, n_eqm, n_meq, n_bit, n_shl, n_b0, n_b1, n_sub, n_inT, nT, nF, lT, lF, eT, eF, not_false_eq_true, not_true_eq_false, sI_at, sI_c, sI_j, aI_at, aI_c, sL_at, sL_c, sL_j, true_and, and_true, not_true_eq_false, not_false_eq_true, forall_const, true_implies, false_implies, implies_true, if_true, if_false, ite_true, ite_false, Bool.not_eq_true, Bool.not_eq_false, Bool.true_eq_false, Bool.false_eq_true, false_and, and_false, or_true, true_or, false_or, or_false, e23, c]
          exact g
    | succ n ih =>
      intro i hi I1 f1 T1
      have H1 : WM v t x o w I1 L := H.fr (fun j _ => by rw [f1 186 (by decide) (by decide)]) (f1 187 (by decide) (by decide)) rfl
      have e11 : I1 186 11 = nI o := by rw [f1 186 (by decide) (by decide)]; exact a3
      have esl1 : I1 187 (o + 2) = nI w.v.sl := by rw [f1 187 (by decide) (by decide)]; exact esl
      obtain ⟨mf, mt, my, mst⟩ := m1 i (by omega)
      obtain ⟨of, ot, -, oy, os1, os2⟩ := okw.2.2.2.2.2.2 i (by omega)
      have skip : (w.v.fr i = p → goS w d (stp w d) s i = false) → SW m_M_speaks 3 [vr 22 186, vi (nI p), vi (nI d), vi (nI s), vi (nI (i + 1))] [] b I1 L (kV K) := fun q => ih (i + 1) (by omega) I1 f1 (tbP_cong (I := I1) rfl rfl (fun s' hs' t' ht' => by
        by_cases c1 : s' = s
        · subst c1
          by_cases c2 : w.v.fr t' = p
          · by_cases c3 : t' = i
            · subst c3
              rw [q c2, Bool.and_false, Bool.and_false]
            · have : decide (t' < i + 1) = decide (t' < i) := decide_eq_decide.mpr ⟨fun _ => by omega, fun _ => by omega⟩
              rw [this]
          · simp [c2]
        · simp [c1]) T1)
      refine v_M_speaks_3 (cm_ties H1 ?_)
      simp (disch := first | omega | assumption) only [n_lit, n_gLt, n_gLe, n_gEq, n_gEq2, n_gLe2, n_gLt2, n_m1, n_add, n_mul, n_lt, n_le, n_eq, n_cl, n_in, n_rem, n_mlt, n_mle, n_ltm, n_lem, n_eqm, n_meq, n_bit, n_shl, n_b0, n_b1, n_sub, n_inT, nT, nF, lT, lF, eT, eF, not_false_eq_true, not_true_eq_false, sI_at, sI_c, sI_j, aI_at, aI_c, sL_at, sL_c, sL_j, true_and, and_true, not_true_eq_false, not_false_eq_true, forall_const, true_implies, false_implies, implies_true, if_true, if_false, ite_true, ite_false, Bool.not_eq_true, Bool.not_eq_false, Bool.true_eq_false, Bool.false_eq_true, false_and, and_false, or_true, true_or, false_or, or_false]
      refine cm_tieOf (q := 0) H1 (by omega) (by decide) ?_
      rw [if_pos rfl, ← mf]
      by_cases c : w.v.fr i = p
      · rw [c]
        simp (disch := first | omega | assumption) only [n_lit, n_gLt, n_gLe, n_gEq, n_gEq2, n_gLe2, n_gLt2, n_m1, n_add, n_mul, n_lt, n_le, n_eq, n_cl, n_in, n_rem, n_mlt, n_mle, n_ltm, n_lem, n_eqm, n_meq, n_bit, n_shl, n_b0, n_b1, n_sub, n_inT, nT, nF, lT, lF, eT, eF, not_false_eq_true, not_true_eq_false, sI_at, sI_c, sI_j, aI_at, aI_c, sL_at, sL_c, sL_j, true_and, and_true, not_true_eq_false, not_false_eq_true, forall_const, true_implies, false_implies, implies_true, if_true, if_false, ite_true, ite_false, Bool.not_eq_true, Bool.not_eq_false, Bool.true_eq_false, Bool.false_eq_true, false_and, and_false, or_true, true_or, false_or, or_false]
        refine cm_isShut H1 (by omega) hd ?_
        cases hop : w.op d i with
        | false =>
          have g := skip (fun _ => by rw [goE i c]; exact hop)
          simp only [Bool.not_false]
          simp (disch := first | omega | assumption) only [n_lit, n_gLt, n_gLe, n_gEq, n_gEq2, n_gLe2, n_gLt2, n_m1, n_add, n_mul, n_lt, n_le, n_eq, n_cl, n_in, n_rem, n_mlt, n_mle, n_ltm, n_lem, n_eqm, n_meq, n_bit, n_shl, n_b0, n_b1, n_sub, n_inT, nT, nF, lT, lF, eT, eF, not_false_eq_true, not_true_eq_false, sI_at, sI_c, sI_j, aI_at, aI_c, sL_at, sL_c, sL_j, true_and, and_true, not_true_eq_false, not_false_eq_true, forall_const, true_implies, false_implies, implies_true, if_true, if_false, ite_true, ite_false, Bool.not_eq_true, Bool.not_eq_false, Bool.true_eq_false, Bool.false_eq_true, false_and, and_false, or_true, true_or, false_or, or_false, Bool.toNat_true]
          exact g
        | true =>
          simp only [Bool.not_true]
          simp (disch := first | omega | assumption) only [n_lit, n_gLt, n_gLe, n_gEq, n_gEq2, n_gLe2, n_gLt2, n_m1, n_add, n_mul, n_lt, n_le, n_eq, n_cl, n_in, n_rem, n_mlt, n_mle, n_ltm, n_lem, n_eqm, n_meq, n_bit, n_shl, n_b0, n_b1, n_sub, n_inT, nT, nF, lT, lF, eT, eF, not_false_eq_true, not_true_eq_false, sI_at, sI_c, sI_j, aI_at, aI_c, sL_at, sL_c, sL_j, true_and, and_true, not_true_eq_false, not_false_eq_true, forall_const, true_implies, false_implies, implies_true, if_true, if_false, ite_true, ite_false, Bool.not_eq_true, Bool.not_eq_false, Bool.true_eq_false, Bool.false_eq_true, false_and, and_false, or_true, true_or, false_or, or_false, Bool.toNat_false]
          refine cm_tieOf (q := 1) H1 (by omega) (by decide) ?_
          refine cm_tieOf (q := 2) H1 (by omega) (by decide) ?_
          rw [if_neg (by decide), if_pos rfl, if_neg (by decide), if_neg (by decide), if_pos rfl, ← mt, ← my]
          simp (disch := first | omega | assumption) only [n_lit, n_gLt, n_gLe, n_gEq, n_gEq2, n_gLe2, n_gLt2, n_m1, n_add, n_mul, n_lt, n_le, n_eq, n_cl, n_in, n_rem, n_mlt, n_mle, n_ltm, n_lem, n_eqm, n_meq, n_bit, n_shl, n_b0, n_b1, n_sub, n_inT, nT, nF, lT, lF, eT, eF, not_false_eq_true, not_true_eq_false, sI_at, sI_c, sI_j, aI_at, aI_c, sL_at, sL_c, sL_j, true_and, and_true, not_true_eq_false, not_false_eq_true, forall_const, true_implies, false_implies, implies_true, if_true, if_false, ite_true, ite_false, Bool.not_eq_true, Bool.not_eq_false, Bool.true_eq_false, Bool.false_eq_true, false_and, and_false, or_true, true_or, false_or, or_false, e11, esl1]
          refine cm_tieOf (q := 3) H1 (by omega) (by decide) ?_
          rw [if_neg (by decide), if_neg (by decide), if_neg (by decide), ← mst]
          have go := cm_carries (K := fun b I2 L => SW m_M_speaks 3 [vr 22 186, vi (nI p), vi (nI d), vi (nI s), vi (nI (i + 1))] [] b I2 L (kV K)) (L := L) (b := b) okw hd hs (t0 := i) (by omega) (D := fun s' t' => D s' t' || (decide (s' = s) && (decide (w.v.fr t' = p) && decide (t' < i)))) (I := I1) (by show (D s i || _) = false; rw [hD i c, decide_eq_false (Nat.lt_irrefl _)]; simp) (by rw [goE i c]; exact hop) T1 (fun I2 f2 T2 => ih (i + 1) (by omega) I2 (fun a a1 a2 => (f2 a a1 a2).trans (f1 a a1 a2)) (tbP_cong (I := I2) rfl rfl (fun s' hs' t' ht' => by
            by_cases c1 : s' = s
            · subst c1
              by_cases c2 : w.v.fr t' = p
              · by_cases c3 : t' = i
                · subst c3
                  simp [c2]
                · have : decide (t' < i + 1) = decide (t' < i) := decide_eq_decide.mpr ⟨fun _ => by omega, fun _ => by omega⟩
                  rw [this]
                  simp [c3]
              · have c4 : t' ≠ i := by rintro rfl; exact c2 c
                simp [c2, c4]
            · simp [c1]) T2))
          have e9 : w.v.dl s i = w.v.dy i + s * w.v.sl := rfl
          rw [c, e9] at go
          exact go
      · have g := skip (fun q => absurd q c)
        simp (disch := first | omega | assumption) only [n_lit, n_gLt, n_gLe, n_gEq, n_gEq2, n_gLe2, n_gLt2, n_m1, n_add, n_mul, n_lt, n_le, n_eq, n_cl, n_in, n_rem, n_mlt, n_mle, n_ltm, n_lem, n_eqm, n_meq, n_bit, n_shl, n_b0, n_b1, n_sub, n_inT, nT, nF, lT, lF, eT, eF, not_false_eq_true, not_true_eq_false, sI_at, sI_c, sI_j, aI_at, aI_c, sL_at, sL_c, sL_j, true_and, and_true, not_true_eq_false, not_false_eq_true, forall_const, true_implies, false_implies, implies_true, if_true, if_false, ite_true, ite_false, Bool.not_eq_true, Bool.not_eq_false, Bool.true_eq_false, Bool.false_eq_true, false_and, and_false, or_true, true_or, false_or, or_false, c]
        exact g
  refine v_M_speaks_0 (loop v.m 0 (by omega) I (fun _ _ _ => rfl) (tbP_cong (I := I) rfl rfl (fun s' hs' t' ht' => ?_) T))
  simp
