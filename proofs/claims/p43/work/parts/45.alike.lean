/-! A DAY CLOSES; days that are alike, in the class's cells -/
theorem c_close {d : Nat} (hd : d ≤ 200) {b : Bool} {I : MI} {L : ML} {K : Bool → MI → ML → Prop} (hK : K b (sI I 165 6 (nI d)) (sL L 179 d (prC I d 16))) : CV m_Days_close [vr 11 165, vi (nI d)] b I L K := by
  have loop : ∀ n i, i + n = 16 → SW m_Days_close 32 [vr 11 165, vi (nI d), vl (prC I d i), un, vi (nI (d * 16 + i))] [] b I L (kV K) := by
    intro n
    induction n with
    | zero =>
      intro i hi
      obtain rfl : i = 16 := by omega
      refine v_Days_close_32 ?_
      simp (disch := first | omega | assumption) only [n_lit, n_gLt, n_gLe, n_gEq, n_gEq2, n_gLe2, n_gLt2, n_m1, n_add, n_mul, n_lt, n_le, n_eq, n_cl, n_in, n_rem, n_mlt, n_mle, n_ltm, n_lem, n_eqm, n_meq, n_bit, n_shl, n_b0, n_b1, n_sub, n_inT, nT, nF, lT, lF, eT, eF, not_false_eq_true, not_true_eq_false, sI_at, sI_c, sI_j, aI_at, aI_c, sL_at, sL_c, sL_j, true_and, and_true, not_true_eq_false, not_false_eq_true, forall_const, true_implies, false_implies, implies_true, if_true, if_false, ite_true, ite_false, Bool.not_eq_true, Bool.not_eq_false, Bool.true_eq_false, Bool.false_eq_true, false_and, and_false, or_true, true_or, false_or, or_false]
      exact hK
    | succ n ih =>
      intro i hi
      refine v_Days_close_32 ?_
      simp (disch := first | omega | assumption) only [n_lit, n_gLt, n_gLe, n_gEq, n_gEq2, n_gLe2, n_gLt2, n_m1, n_add, n_mul, n_lt, n_le, n_eq, n_cl, n_in, n_rem, n_mlt, n_mle, n_ltm, n_lem, n_eqm, n_meq, n_bit, n_shl, n_b0, n_b1, n_sub, n_inT, nT, nF, lT, lF, eT, eF, not_false_eq_true, not_true_eq_false, sI_at, sI_c, sI_j, aI_at, aI_c, sL_at, sL_c, sL_j, true_and, and_true, not_true_eq_false, not_false_eq_true, forall_const, true_implies, false_implies, implies_true, if_true, if_false, ite_true, ite_false, Bool.not_eq_true, Bool.not_eq_false, Bool.true_eq_false, Bool.false_eq_true, false_and, and_false, or_true, true_or, false_or, or_false]
      exact ih (i + 1) (by omega)
  refine v_Days_close_0 ?_
  have := loop 16 0 (by omega)
  rw [Nat.add_zero] at this
  simp (disch := first | omega | assumption) only [n_lit, n_gLt, n_gLe, n_gEq, n_gEq2, n_gLe2, n_gLt2, n_m1, n_add, n_mul, n_lt, n_le, n_eq, n_cl, n_in, n_rem, n_mlt, n_mle, n_ltm, n_lem, n_eqm, n_meq, n_bit, n_shl, n_b0, n_b1, n_sub, n_inT, nT, nF, lT, lF, eT, eF, not_false_eq_true, not_true_eq_false, sI_at, sI_c, sI_j, aI_at, aI_c, sL_at, sL_c, sL_j, true_and, and_true, not_true_eq_false, not_false_eq_true, forall_const, true_implies, false_implies, implies_true, if_true, if_false, ite_true, ite_false, Bool.not_eq_true, Bool.not_eq_false, Bool.true_eq_false, Bool.false_eq_true, false_and, and_false, or_true, true_or, false_or, or_false]
  exact this
def allN : Nat → (Nat → Bool) → Bool
  | 0, _ => true
  | n + 1, f => allN n f && f n
theorem allN_iff {f : Nat → Bool} : ∀ {n : Nat}, allN n f = true ↔ ∀ i, i < n → f i = true
  | 0 => ⟨fun _ i hi => absurd hi (Nat.not_lt_zero _), fun _ => rfl⟩
  | n + 1 => by
    unfold allN
    rw [Bool.and_eq_true, allN_iff]
    constructor
    · rintro ⟨h1, h2⟩ i hi
      by_cases e : i = n
      · subst e; exact h2
      · exact h1 i (by omega)
    · exact fun h => ⟨fun i hi => h i (by omega), h n (by omega)⟩
def alA (w : Wd) (S S' : St) : Bool := allN w.v.n (fun p => decide (S.ha 0 p = S'.ha 0 p ∧ S.ha 1 p = S'.ha 1 p ∧ S.cn 0 p = S'.cn 0 p ∧ S.cn 1 p = S'.cn 1 p ∧ S.su p = S'.su p))
def alD (w : Wd) (s : Nat) (S S' : St) : Bool := allN 6 (fun k => allN w.v.n (fun p => decide (S.du s (k + 1) p = S'.du s (k + 1) p)))
def alk (w : Wd) (S S' : St) : Bool := alA w S S' && (alD w 0 S S' && alD w 1 S S')
theorem du_big {w : Wd} (ok : w.v.ok 41) {s : Nat} (hs : s < 2) (p d k : Nat) (hk : 7 ≤ k) : (stt w d).du s k p = 0 := by
  rw [du_hist]
  refine (sumN_cong (g := fun _ => 0) (fun i hi => ?_)).trans (sumN_zero _)
  have := dl_le ok hs hi
  rw [if_neg (by omega)]
theorem alk_iff {w : Wd} (ok : w.v.ok 41) {a d : Nat} : alk w (stt w a) (stt w d) = true ↔ alike w (stt w a) (stt w d) := by
  unfold alk alA alD
  rw [Bool.and_eq_true, Bool.and_eq_true, allN_iff, allN_iff, allN_iff]
  have key : ∀ s, s < 2 → ((∀ i, i < 6 → allN w.v.n (fun p => decide ((stt w a).du s (i + 1) p = (stt w d).du s (i + 1) p)) = true) ↔ ∀ p, p < w.v.n → ∀ k, 1 ≤ k → (stt w a).du s k p = (stt w d).du s k p) := by
    intro s hs
    constructor
    · intro h p hp k hk
      by_cases c : k ≤ 6
      · have := allN_iff.mp (h (k - 1) (by omega)) p hp
        have := of_decide_eq_true this
        rw [show k - 1 + 1 = k by omega] at this
        exact this
      · rw [du_big ok hs p a k (by omega), du_big ok hs p d k (by omega)]
    · intro h i hi
      rw [allN_iff]
      intro p hp
      exact decide_eq_true (h p hp (i + 1) (by omega))
  rw [key 0 (by decide), key 1 (by decide)]
  constructor
  · rintro ⟨h1, h2, h3⟩ s hs p hp
    have q := of_decide_eq_true (h1 p hp)
    rcases (by omega : s = 0 ∨ s = 1) with rfl | rfl
    · exact ⟨⟨q.1, q.2.2.1, q.2.2.2.2⟩, h2 p hp⟩
    · exact ⟨⟨q.2.1, q.2.2.2.1, q.2.2.2.2⟩, h3 p hp⟩
  · intro h
    refine ⟨fun p hp => decide_eq_true ?_, fun p hp => (h 0 (by decide) p hp).2, fun p hp => (h 1 (by decide) p hp).2⟩
    have q0 := (h 0 (by decide) p hp).1
    have q1 := (h 1 (by decide) p hp).1
    exact ⟨q0.1, q1.1, q0.2.1, q1.2.1, q0.2.2⟩
theorem su_le (w : Wd) (d p : Nat) : -99 ≤ (stt w d).su p ∧ (stt w d).su p ≤ 99 := (most_stt w p d).1
/-- equal rows, equal print -/
theorem prC_eq {I : MI} {a d : Nat} : ∀ {n : Nat}, I 167 a = I 167 d → I 173 a = I 173 d → (∀ p, p < n → I 178 (a * 16 + p) = I 178 (d * 16 + p) ∧ I 171 (a * 16 + p) = I 171 (d * 16 + p) ∧ I 177 (a * 16 + p) = I 177 (d * 16 + p)) → prC I a n = prC I d n
  | 0, h1, h2, _ => by
    unfold prC
    rw [h1, h2]
  | n + 1, h1, h2, h3 => by
    unfold prC
    obtain ⟨q1, q2, q3⟩ := h3 n (by omega)
    rw [prC_eq h1 h2 (fun p hp => h3 p (by omega)), q1, q2, q3]
theorem lg_eq (x y : Int64) : (lg_cmp x y = nI 0) = (x = y) := by
  unfold lg_cmp
  apply propext
  by_cases h : x > y
  · rw [if_pos h]
    constructor
    · intro q; exact absurd q (by decide)
    · rintro rfl; exact absurd h (by show ¬ x < x; exact Int64.lt_irrefl)
  · rw [if_neg h]
    by_cases h2 : x = y
    · rw [if_pos h2]; exact ⟨fun _ => h2, fun _ => rfl⟩
    · rw [if_neg h2]
      exact ⟨fun q => absurd q (by decide), fun q => absurd q h2⟩
theorem c_isAlike {w : Wd} {a d : Nat} (ha : a ≤ 200) (hd : d ≤ 200) (hn : w.v.n ≤ 16) {b : Bool} {I : MI} {L : ML} {K : Int32 → Bool → MI → ML → Prop} (ra : rowC w a I L) (rd : rowC w d I L) (hK : K (nI (alA w (stt w a) (stt w d)).toNat) b I L) : CI m_Days_isAlike [vr 11 165, vi (nI a), vi (nI d)] b I L K := by
  -- what is compared of a person
  have hf : ∃ f : Nat → Bool, ∀ p, f p = decide (I 178 (a * 16 + p) = I 178 (d * 16 + p) ∧ I 171 (a * 16 + p) = I 171 (d * 16 + p) ∧ I 177 (a * 16 + p) = I 177 (d * 16 + p)) := ⟨_, fun _ => rfl⟩
  obtain ⟨f, hf⟩ := hf
  have loop : ∀ n i, i + n = 16 → ∀ c : Bool, (∀ r : Bool, (r = true ↔ c = true ∧ ∀ p, i ≤ p → p < 16 → f p = true) → K (nI r.toNat) b I L) → SW m_Days_isAlike 67 [vr 11 165, vi (nI a), vi (nI d), vi (nI c.toNat), vi (nI i), un, un] [] b I L (kI K) := by
    intro n
    induction n with
    | zero =>
      intro i hi c k
      obtain rfl : i = 16 := by omega
      have := k c ⟨fun q => ⟨q, fun p h1 h2 => by omega⟩, fun q => q.1⟩
      refine v_Days_isAlike_67 ?_
      cases c
      · simp (disch := first | omega | assumption) only [n_lit, n_gLt, n_gLe, n_gEq, n_gEq2, n_gLe2, n_gLt2, n_m1, n_add, n_mul, n_lt, n_le, n_eq, n_cl, n_in, n_rem, n_mlt, n_mle, n_ltm, n_lem, n_eqm, n_meq, n_bit, n_shl, n_b0, n_b1, n_sub, n_inT, nT, nF, lT, lF, eT, eF, not_false_eq_true, not_true_eq_false, sI_at, sI_c, sI_j, aI_at, aI_c, sL_at, sL_c, sL_j, true_and, and_true, not_true_eq_false, not_false_eq_true, forall_const, true_implies, false_implies, implies_true, if_true, if_false, ite_true, ite_false, Bool.not_eq_true, Bool.not_eq_false, Bool.true_eq_false, Bool.false_eq_true, false_and, and_false, or_true, true_or, false_or, or_false, Bool.toNat_false]
        exact this
      · simp (disch := first | omega | assumption) only [n_lit, n_gLt, n_gLe, n_gEq, n_gEq2, n_gLe2, n_gLt2, n_m1, n_add, n_mul, n_lt, n_le, n_eq, n_cl, n_in, n_rem, n_mlt, n_mle, n_ltm, n_lem, n_eqm, n_meq, n_bit, n_shl, n_b0, n_b1, n_sub, n_inT, nT, nF, lT, lF, eT, eF, not_false_eq_true, not_true_eq_false, sI_at, sI_c, sI_j, aI_at, aI_c, sL_at, sL_c, sL_j, true_and, and_true, not_true_eq_false, not_false_eq_true, forall_const, true_implies, false_implies, implies_true, if_true, if_false, ite_true, ite_false, Bool.not_eq_true, Bool.not_eq_false, Bool.true_eq_false, Bool.false_eq_true, false_and, and_false, or_true, true_or, false_or, or_false, Bool.toNat_true]
        exact this
    | succ n ih =>
      intro i hi c k
      refine v_Days_isAlike_67 ?_
      cases c with
      | false =>
        have := k false ⟨fun q => absurd q (by decide), fun q => absurd q.1 (by decide)⟩
        simp (disch := first | omega | assumption) only [n_lit, n_gLt, n_gLe, n_gEq, n_gEq2, n_gLe2, n_gLt2, n_m1, n_add, n_mul, n_lt, n_le, n_eq, n_cl, n_in, n_rem, n_mlt, n_mle, n_ltm, n_lem, n_eqm, n_meq, n_bit, n_shl, n_b0, n_b1, n_sub, n_inT, nT, nF, lT, lF, eT, eF, not_false_eq_true, not_true_eq_false, sI_at, sI_c, sI_j, aI_at, aI_c, sL_at, sL_c, sL_j, true_and, and_true, not_true_eq_false, not_false_eq_true, forall_const, true_implies, false_implies, implies_true, if_true, if_false, ite_true, ite_false, Bool.not_eq_true, Bool.not_eq_false, Bool.true_eq_false, Bool.false_eq_true, false_and, and_false, or_true, true_or, false_or, or_false, Bool.toNat_false]
        exact this
      | true =>
        have nxt : SW m_Days_isAlike 67 [vr 11 165, vi (nI a), vi (nI d), vi (nI (f i).toNat), vi (nI (i + 1)), un, un] [] b I L (kI K) := by
          refine ih (i + 1) (by omega) (f i) (fun r hr => k r ?_)
          rw [hr]
          constructor
          · rintro ⟨q1, q2⟩
            refine ⟨rfl, fun p h1 h2 => ?_⟩
            by_cases e : p = i
            · subst e; exact q1
            · exact q2 p (by omega) h2
          · rintro ⟨-, q⟩
            exact ⟨q i (Nat.le_refl _) (by omega), fun p h1 h2 => q p (by omega) h2⟩
        have hfi := hf i
        by_cases q1 : I 178 (a * 16 + i) = I 178 (d * 16 + i)
        · by_cases q2 : I 171 (a * 16 + i) = I 171 (d * 16 + i)
          · by_cases q3 : I 177 (a * 16 + i) = I 177 (d * 16 + i)
            · rw [decide_eq_true ⟨q1, q2, q3⟩] at hfi
              rw [hfi] at nxt
              simp (disch := first | omega | assumption) only [n_lit, n_gLt, n_gLe, n_gEq, n_gEq2, n_gLe2, n_gLt2, n_m1, n_add, n_mul, n_lt, n_le, n_eq, n_cl, n_in, n_rem, n_mlt, n_mle, n_ltm, n_lem, n_eqm, n_meq, n_bit, n_shl, n_b0, n_b1, n_sub, n_inT, nT, nF, lT, lF, eT, eF, not_false_eq_true, not_true_eq_false, sI_at, sI_c, sI_j, aI_at, aI_c, sL_at, sL_c, sL_j, true_and, and_true, not_true_eq_false, not_false_eq_true, forall_const, true_implies, false_implies, implies_true, if_true, if_false, ite_true, ite_false, Bool.not_eq_true, Bool.not_eq_false, Bool.true_eq_false, Bool.false_eq_true, false_and, and_false, or_true, true_or, false_or, or_false, Bool.toNat_true, q1, q2, q3]
              exact nxt
            · rw [decide_eq_false (fun q => q3 q.2.2)] at hfi
              rw [hfi] at nxt
              simp (disch := first | omega | assumption) only [n_lit, n_gLt, n_gLe, n_gEq, n_gEq2, n_gLe2, n_gLt2, n_m1, n_add, n_mul, n_lt, n_le, n_eq, n_cl, n_in, n_rem, n_mlt, n_mle, n_ltm, n_lem, n_eqm, n_meq, n_bit, n_shl, n_b0, n_b1, n_sub, n_inT, nT, nF, lT, lF, eT, eF, not_false_eq_true, not_true_eq_false, sI_at, sI_c, sI_j, aI_at, aI_c, sL_at, sL_c, sL_j, true_and, and_true, not_true_eq_false, not_false_eq_true, forall_const, true_implies, false_implies, implies_true, if_true, if_false, ite_true, ite_false, Bool.not_eq_true, Bool.not_eq_false, Bool.true_eq_false, Bool.false_eq_true, false_and, and_false, or_true, true_or, false_or, or_false, Bool.toNat_true, q1, q2, q3]
              exact nxt
          · rw [decide_eq_false (fun q => q2 q.2.1)] at hfi
            rw [hfi] at nxt
            simp (disch := first | omega | assumption) only [n_lit, n_gLt, n_gLe, n_gEq, n_gEq2, n_gLe2, n_gLt2, n_m1, n_add, n_mul, n_lt, n_le, n_eq, n_cl, n_in, n_rem, n_mlt, n_mle, n_ltm, n_lem, n_eqm, n_meq, n_bit, n_shl, n_b0, n_b1, n_sub, n_inT, nT, nF, lT, lF, eT, eF, not_false_eq_true, not_true_eq_false, sI_at, sI_c, sI_j, aI_at, aI_c, sL_at, sL_c, sL_j, true_and, and_true, not_true_eq_false, not_false_eq_true, forall_const, true_implies, false_implies, implies_true, if_true, if_false, ite_true, ite_false, Bool.not_eq_true, Bool.not_eq_false, Bool.true_eq_false, Bool.false_eq_true, false_and, and_false, or_true, true_or, false_or, or_false, Bool.toNat_true, q1, q2]
            exact nxt
        · rw [decide_eq_false (fun q => q1 q.1)] at hfi
          rw [hfi] at nxt
          simp (disch := first | omega | assumption) only [n_lit, n_gLt, n_gLe, n_gEq, n_gEq2, n_gLe2, n_gLt2, n_m1, n_add, n_mul, n_lt, n_le, n_eq, n_cl, n_in, n_rem, n_mlt, n_mle, n_ltm, n_lem, n_eqm, n_meq, n_bit, n_shl, n_b0, n_b1, n_sub, n_inT, nT, nF, lT, lF, eT, eF, not_false_eq_true, not_true_eq_false, sI_at, sI_c, sI_j, aI_at, aI_c, sL_at, sL_c, sL_j, true_and, and_true, not_true_eq_false, not_false_eq_true, forall_const, true_implies, false_implies, implies_true, if_true, if_false, ite_true, ite_false, Bool.not_eq_true, Bool.not_eq_false, Bool.true_eq_false, Bool.false_eq_true, false_and, and_false, or_true, true_or, false_or, or_false, Bool.toNat_true, q1]
          exact nxt
  obtain ⟨⟨a1, a2, a3, a4, a5⟩, ⟨c1, c2, c3, c4, c5⟩, ra3, ra4⟩ := ra
  obtain ⟨⟨g1, g2, g3, g4, g5⟩, ⟨e1, e2, e3, e4, e5⟩, rd3, rd4⟩ := rd
  have hsa := fun p => su_le w a p
  have hsd := fun p => su_le w d p
  have hcn := fun s p e => cn_le w s p e
  have per : ∀ p, p < 16 → (f p = true ↔ (p < w.v.n → (stt w a).cn 0 p = (stt w d).cn 0 p ∧ (stt w a).cn 1 p = (stt w d).cn 1 p ∧ (stt w a).su p = (stt w d).su p)) := by
    intro p hp
    have := hsa p
    have := hsd p
    have := hcn 0 p a
    have := hcn 0 p d
    have := hcn 1 p a
    have := hcn 1 p d
    rw [hf p, decide_eq_true_iff, ra3 p hp, rd3 p hp, a5 p hp, g5 p hp, c5 p hp, e5 p hp]
    by_cases q : p < w.v.n
    · rw [if_pos q, if_pos q, if_pos q, if_pos q, if_pos q, if_pos q, z_eq (by omega) (by omega) (by omega) (by omega), n_eq (by omega) (by omega), n_eq (by omega) (by omega)]
      exact ⟨fun h _ => ⟨h.2.1, h.2.2, h.1⟩, fun h => ⟨(h q).2.2, (h q).1, (h q).2.1⟩⟩
    · rw [if_neg q, if_neg q, if_neg q, if_neg q, if_neg q, if_neg q]
      exact ⟨fun _ h => absurd h q, fun _ => ⟨rfl, rfl, rfl⟩⟩
  have hbits : ∀ (r s : Nat), (∀ p, p < 32 → bt (I (r + 1) a) p = (decide (p < w.v.n) && (stt w a).ha s p)) → (∀ p, p < 32 → bt (I (r + 1) d) p = (decide (p < w.v.n) && (stt w d).ha s p)) → (I (r + 1) a = I (r + 1) d ↔ ∀ p, p < w.v.n → (stt w a).ha s p = (stt w d).ha s p) := by
    intro r s h1 h2
    constructor
    · intro h p hp
      have q1 := h1 p (by omega)
      have q2 := h2 p (by omega)
      rw [h, q2, decide_eq_true hp, Bool.true_and, Bool.true_and] at q1
      exact q1.symm
    · intro h
      apply b_ext
      intro p hp
      rw [h1 p hp, h2 p hp]
      by_cases q : p < w.v.n
      · rw [h p q]
      · rw [decide_eq_false q, Bool.false_and, Bool.false_and]
  have hb0 := hbits 166 0 a1 g1
  have hb1 := hbits 172 1 c1 e1
  have hA : alA w (stt w a) (stt w d) = true ↔ (I 167 a = I 167 d ∧ I 173 a = I 173 d) ∧ ∀ p, 0 ≤ p → p < 16 → f p = true := by
    unfold alA
    rw [allN_iff, hb0, hb1]
    constructor
    · intro h
      refine ⟨⟨fun p hp => (of_decide_eq_true (h p hp)).1, fun p hp => (of_decide_eq_true (h p hp)).2.1⟩, fun p _ hp => (per p hp).mpr (fun q => ?_)⟩
      have := of_decide_eq_true (h p q)
      exact ⟨this.2.2.1, this.2.2.2.1, this.2.2.2.2⟩
    · rintro ⟨⟨h1, h2⟩, h3⟩ p hp
      obtain ⟨q1, q2, q3⟩ := (per p (by omega)).mp (h3 p (Nat.zero_le _) (by omega)) hp
      exact decide_eq_true ⟨h1 p hp, h2 p hp, q1, q2, q3⟩
  have hno : ∀ P : Prop, (P → False) → alA w (stt w a) (stt w d) = true → P → False := fun P h _ p => h p
  refine v_Days_isAlike_0 ?_
  cases hal : alA w (stt w a) (stt w d) with
  | true =>
    obtain ⟨⟨h1, h2⟩, h3⟩ := hA.mp hal
    have hL : L 179 a = L 179 d := by
      rw [ra4, rd4]
      refine prC_eq h1 h2 (fun p hp => ?_)
      have := h3 p (Nat.zero_le _) hp
      rw [hf p] at this
      exact of_decide_eq_true this
    have go := loop 16 0 (by omega) true (fun r hr => by
      rw [hr.mpr ⟨rfl, h3⟩]
      rw [hal] at hK
      exact hK)
    simp (disch := first | omega | assumption) only [n_lit, n_gLt, n_gLe, n_gEq, n_gEq2, n_gLe2, n_gLt2, n_m1, n_add, n_mul, n_lt, n_le, n_eq, n_cl, n_in, n_rem, n_mlt, n_mle, n_ltm, n_lem, n_eqm, n_meq, n_bit, n_shl, n_b0, n_b1, n_sub, n_inT, nT, nF, lT, lF, eT, eF, not_false_eq_true, not_true_eq_false, sI_at, sI_c, sI_j, aI_at, aI_c, sL_at, sL_c, sL_j, true_and, and_true, not_true_eq_false, not_false_eq_true, forall_const, true_implies, false_implies, implies_true, if_true, if_false, ite_true, ite_false, Bool.not_eq_true, Bool.not_eq_false, Bool.true_eq_false, Bool.false_eq_true, false_and, and_false, or_true, true_or, false_or, or_false, lg_eq, hL, h1, h2]
    exact go
  | false =>
    rw [hal] at hK
    have go : ∀ c : Bool, (c = true → I 167 a = I 167 d ∧ I 173 a = I 173 d) → SW m_Days_isAlike 67 [vr 11 165, vi (nI a), vi (nI d), vi (nI c.toNat), vi (nI 0), un, un] [] b I L (kI K) := fun c hc => loop 16 0 (by omega) c (fun r hr => by
      have : r = false := by
        cases hrr : r with
        | false => rfl
        | true =>
          obtain ⟨q1, q2⟩ := hr.mp hrr
          have := hA.mpr ⟨hc q1, q2⟩
          rw [hal] at this
          cases this
      rw [this]
      exact hK)
    have go0 := go false (fun q => by cases q)
    by_cases q1 : L 179 a = L 179 d
    · by_cases q2 : I 167 a = I 167 d
      · by_cases q3 : I 173 a = I 173 d
        · have go1 := go true (fun _ => ⟨q2, q3⟩)
          simp (disch := first | omega | assumption) only [n_lit, n_gLt, n_gLe, n_gEq, n_gEq2, n_gLe2, n_gLt2, n_m1, n_add, n_mul, n_lt, n_le, n_eq, n_cl, n_in, n_rem, n_mlt, n_mle, n_ltm, n_lem, n_eqm, n_meq, n_bit, n_shl, n_b0, n_b1, n_sub, n_inT, nT, nF, lT, lF, eT, eF, not_false_eq_true, not_true_eq_false, sI_at, sI_c, sI_j, aI_at, aI_c, sL_at, sL_c, sL_j, true_and, and_true, not_true_eq_false, not_false_eq_true, forall_const, true_implies, false_implies, implies_true, if_true, if_false, ite_true, ite_false, Bool.not_eq_true, Bool.not_eq_false, Bool.true_eq_false, Bool.false_eq_true, false_and, and_false, or_true, true_or, false_or, or_false, lg_eq, q1, q2, q3]
          exact go1
        · simp (disch := first | omega | assumption) only [n_lit, n_gLt, n_gLe, n_gEq, n_gEq2, n_gLe2, n_gLt2, n_m1, n_add, n_mul, n_lt, n_le, n_eq, n_cl, n_in, n_rem, n_mlt, n_mle, n_ltm, n_lem, n_eqm, n_meq, n_bit, n_shl, n_b0, n_b1, n_sub, n_inT, nT, nF, lT, lF, eT, eF, not_false_eq_true, not_true_eq_false, sI_at, sI_c, sI_j, aI_at, aI_c, sL_at, sL_c, sL_j, true_and, and_true, not_true_eq_false, not_false_eq_true, forall_const, true_implies, false_implies, implies_true, if_true, if_false, ite_true, ite_false, Bool.not_eq_true, Bool.not_eq_false, Bool.true_eq_false, Bool.false_eq_true, false_and, and_false, or_true, true_or, false_or, or_false, lg_eq, q1, q2, q3]
          exact go0
      · simp (disch := first | omega | assumption) only [n_lit, n_gLt, n_gLe, n_gEq, n_gEq2, n_gLe2, n_gLt2, n_m1, n_add, n_mul, n_lt, n_le, n_eq, n_cl, n_in, n_rem, n_mlt, n_mle, n_ltm, n_lem, n_eqm, n_meq, n_bit, n_shl, n_b0, n_b1, n_sub, n_inT, nT, nF, lT, lF, eT, eF, not_false_eq_true, not_true_eq_false, sI_at, sI_c, sI_j, aI_at, aI_c, sL_at, sL_c, sL_j, true_and, and_true, not_true_eq_false, not_false_eq_true, forall_const, true_implies, false_implies, implies_true, if_true, if_false, ite_true, ite_false, Bool.not_eq_true, Bool.not_eq_false, Bool.true_eq_false, Bool.false_eq_true, false_and, and_false, or_true, true_or, false_or, or_false, lg_eq, q1, q2]
        exact go0
    · simp (disch := first | omega | assumption) only [n_lit, n_gLt, n_gLe, n_gEq, n_gEq2, n_gLe2, n_gLt2, n_m1, n_add, n_mul, n_lt, n_le, n_eq, n_cl, n_in, n_rem, n_mlt, n_mle, n_ltm, n_lem, n_eqm, n_meq, n_bit, n_shl, n_b0, n_b1, n_sub, n_inT, nT, nF, lT, lF, eT, eF, not_false_eq_true, not_true_eq_false, sI_at, sI_c, sI_j, aI_at, aI_c, sL_at, sL_c, sL_j, true_and, and_true, not_true_eq_false, not_false_eq_true, forall_const, true_implies, false_implies, implies_true, if_true, if_false, ite_true, ite_false, Bool.not_eq_true, Bool.not_eq_false, Bool.true_eq_false, Bool.false_eq_true, false_and, and_false, or_true, true_or, false_or, or_false, lg_eq, q1]
      exact go0
