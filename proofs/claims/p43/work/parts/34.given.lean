/-! WHAT A RUN IS GIVEN: fills, worlds out of what is told, Given.set -/
theorem c_fillA {r : Nat} {v : Int32} {b : Bool} {I : MI} {L : ML} {K : Bool → MI → ML → Prop} (hK : ∀ I', (∀ a, a ≠ r → I' a = I a) → (∀ j, j < 1600 → I' r j = v) → K b I' L) : CV m_J_fill [vr 12900 r, vi v] b I L K := by
  have loop : ∀ n i, i + n = 1600 → ∀ I1 : MI, (∀ a, a ≠ r → I1 a = I a) → (∀ j, j < i → I1 r j = v) → SW m_J_fill 5 [vr 12900 r, vi v, vi (nI i), vi (nI 1600)] [] b I1 L (kV K) := by
    intro n
    induction n with
    | zero =>
      intro i hi I1 h1 h2
      obtain rfl : i = 1600 := by omega
      refine v_J_fillA_5 ?_
      simp (disch := first | omega | assumption) only [n_lit, n_gLt, n_gLe, n_gEq, n_gEq2, n_gLe2, n_gLt2, n_m1, n_add, n_mul, n_lt, n_le, n_eq, n_cl, n_in, n_rem, n_mlt, n_mle, n_ltm, n_lem, n_eqm, n_meq, n_bit, n_shl, n_b0, n_b1, n_sub, n_inT, nT, nF, lT, lF, eT, eF, not_false_eq_true, not_true_eq_false, sI_at, sI_c, sI_j, aI_at, aI_c, sL_at, sL_c, sL_j, true_and, and_true, not_true_eq_false, not_false_eq_true, forall_const, true_implies, false_implies, implies_true, if_true, if_false, ite_true, ite_false, Bool.not_eq_true, Bool.not_eq_false, Bool.true_eq_false, Bool.false_eq_true, false_and, and_false, or_true, true_or, false_or, or_false]
      exact hK I1 h1 h2
    | succ n ih =>
      intro i hi I1 h1 h2
      refine v_J_fillA_5 ?_
      simp (disch := first | omega | assumption) only [n_lit, n_gLt, n_gLe, n_gEq, n_gEq2, n_gLe2, n_gLt2, n_m1, n_add, n_mul, n_lt, n_le, n_eq, n_cl, n_in, n_rem, n_mlt, n_mle, n_ltm, n_lem, n_eqm, n_meq, n_bit, n_shl, n_b0, n_b1, n_sub, n_inT, nT, nF, lT, lF, eT, eF, not_false_eq_true, not_true_eq_false, sI_at, sI_c, sI_j, aI_at, aI_c, sL_at, sL_c, sL_j, true_and, and_true, not_true_eq_false, not_false_eq_true, forall_const, true_implies, false_implies, implies_true, if_true, if_false, ite_true, ite_false, Bool.not_eq_true, Bool.not_eq_false, Bool.true_eq_false, Bool.false_eq_true, false_and, and_false, or_true, true_or, false_or, or_false]
      refine ih (i + 1) (by omega) _ (fun a ha => by rw [sI_c ha, h1 a ha]) (fun j hj => ?_)
      by_cases e : j = i
      · subst e; exact sI_at _ _ _ _
      · rw [sI_j e, h2 j (by omega)]
  exact v_J_fillA_0 (loop 1600 0 (by omega) I (fun _ _ => rfl) (fun j hj => by omega))
theorem c_fillB {r : Nat} {v : Int32} {b : Bool} {I : MI} {L : ML} {K : Bool → MI → ML → Prop} (hK : ∀ I', (∀ a, a ≠ r → I' a = I a) → (∀ j, j < 16 → I' r j = v) → K b I' L) : CV m_J_fill [vr 228 r, vi v] b I L K := by
  have loop : ∀ n i, i + n = 16 → ∀ I1 : MI, (∀ a, a ≠ r → I1 a = I a) → (∀ j, j < i → I1 r j = v) → SW m_J_fill 5 [vr 228 r, vi v, vi (nI i), vi (nI 16)] [] b I1 L (kV K) := by
    intro n
    induction n with
    | zero =>
      intro i hi I1 h1 h2
      obtain rfl : i = 16 := by omega
      refine v_J_fillB_5 ?_
      simp (disch := first | omega | assumption) only [n_lit, n_gLt, n_gLe, n_gEq, n_gEq2, n_gLe2, n_gLt2, n_m1, n_add, n_mul, n_lt, n_le, n_eq, n_cl, n_in, n_rem, n_mlt, n_mle, n_ltm, n_lem, n_eqm, n_meq, n_bit, n_shl, n_b0, n_b1, n_sub, n_inT, nT, nF, lT, lF, eT, eF, not_false_eq_true, not_true_eq_false, sI_at, sI_c, sI_j, aI_at, aI_c, sL_at, sL_c, sL_j, true_and, and_true, not_true_eq_false, not_false_eq_true, forall_const, true_implies, false_implies, implies_true, if_true, if_false, ite_true, ite_false, Bool.not_eq_true, Bool.not_eq_false, Bool.true_eq_false, Bool.false_eq_true, false_and, and_false, or_true, true_or, false_or, or_false]
      exact hK I1 h1 h2
    | succ n ih =>
      intro i hi I1 h1 h2
      refine v_J_fillB_5 ?_
      simp (disch := first | omega | assumption) only [n_lit, n_gLt, n_gLe, n_gEq, n_gEq2, n_gLe2, n_gLt2, n_m1, n_add, n_mul, n_lt, n_le, n_eq, n_cl, n_in, n_rem, n_mlt, n_mle, n_ltm, n_lem, n_eqm, n_meq, n_bit, n_shl, n_b0, n_b1, n_sub, n_inT, nT, nF, lT, lF, eT, eF, not_false_eq_true, not_true_eq_false, sI_at, sI_c, sI_j, aI_at, aI_c, sL_at, sL_c, sL_j, true_and, and_true, not_true_eq_false, not_false_eq_true, forall_const, true_implies, false_implies, implies_true, if_true, if_false, ite_true, ite_false, Bool.not_eq_true, Bool.not_eq_false, Bool.true_eq_false, Bool.false_eq_true, false_and, and_false, or_true, true_or, false_or, or_false]
      refine ih (i + 1) (by omega) _ (fun a ha => by rw [sI_c ha, h1 a ha]) (fun j hj => ?_)
      by_cases e : j = i
      · subst e; exact sI_at _ _ _ _
      · rw [sI_j e, h2 j (by omega)]
  exact v_J_fillB_0 (loop 16 0 (by omega) I (fun _ _ => rfl) (fun j hj => by omega))
theorem c_fillR {r : Nat} {v : Int32} {b : Bool} {I : MI} {L : ML} {K : Bool → MI → ML → Prop} (hK : ∀ I', (∀ a, a ≠ r → I' a = I a) → (∀ j, j < 16 → I' r j = v) → (∀ j, 16 ≤ j → I' r j = I r j) → K b I' L) : CV m_J_fill_2 [vr 25828 r, vi (0 : Int32), vi (16 : Int32), vi v] b I L K := by
  have loop : ∀ n i, i + n = 16 → ∀ I1 : MI, (∀ a, a ≠ r → I1 a = I a) → (∀ j, j < i → I1 r j = v) → (∀ j, i ≤ j → I1 r j = I r j) → SW m_J_fill_2 10 [vr 25828 r, un, vi (nI 16), vi v, vi (nI i)] [] b I1 L (kV K) := by
    intro n
    induction n with
    | zero =>
      intro i hi I1 h1 h2 h3
      obtain rfl : i = 16 := by omega
      refine v_J_fill_2_10 ?_
      simp (disch := first | omega | assumption) only [n_lit, n_gLt, n_gLe, n_gEq, n_gEq2, n_gLe2, n_gLt2, n_m1, n_add, n_mul, n_lt, n_le, n_eq, n_cl, n_in, n_rem, n_mlt, n_mle, n_ltm, n_lem, n_eqm, n_meq, n_bit, n_shl, n_b0, n_b1, n_sub, n_inT, nT, nF, lT, lF, eT, eF, not_false_eq_true, not_true_eq_false, sI_at, sI_c, sI_j, aI_at, aI_c, sL_at, sL_c, sL_j, true_and, and_true, not_true_eq_false, not_false_eq_true, forall_const, true_implies, false_implies, implies_true, if_true, if_false, ite_true, ite_false, Bool.not_eq_true, Bool.not_eq_false, Bool.true_eq_false, Bool.false_eq_true, false_and, and_false, or_true, true_or, false_or, or_false]
      exact hK I1 h1 h2 h3
    | succ n ih =>
      intro i hi I1 h1 h2 h3
      refine v_J_fill_2_10 ?_
      simp (disch := first | omega | assumption) only [n_lit, n_gLt, n_gLe, n_gEq, n_gEq2, n_gLe2, n_gLt2, n_m1, n_add, n_mul, n_lt, n_le, n_eq, n_cl, n_in, n_rem, n_mlt, n_mle, n_ltm, n_lem, n_eqm, n_meq, n_bit, n_shl, n_b0, n_b1, n_sub, n_inT, nT, nF, lT, lF, eT, eF, not_false_eq_true, not_true_eq_false, sI_at, sI_c, sI_j, aI_at, aI_c, sL_at, sL_c, sL_j, true_and, and_true, not_true_eq_false, not_false_eq_true, forall_const, true_implies, false_implies, implies_true, if_true, if_false, ite_true, ite_false, Bool.not_eq_true, Bool.not_eq_false, Bool.true_eq_false, Bool.false_eq_true, false_and, and_false, or_true, true_or, false_or, or_false]
      refine ih (i + 1) (by omega) _ (fun a ha => by rw [sI_c ha, h1 a ha]) (fun j hj => ?_) (fun j hj => by rw [sI_j (by omega), h3 j (by omega)])
      by_cases e : j = i
      · subst e; exact sI_at _ _ _ _
      · rw [sI_j e, h2 j (by omega)]
  exact v_J_fill_2_0 (v_J_rangeCheck_0 ⟨fun _ => ⟨fun _ => ⟨fun _ => loop 16 0 (by omega) I (fun _ _ => rfl) (fun j hj => by omega) (fun _ _ => rfl), fun q => absurd (by decide) q⟩, fun q => absurd (by decide) q⟩, fun q => absurd (by decide) q⟩)
theorem c_fillL {r : Nat} {v : Int64} {b : Bool} {I : MI} {L : ML} {K : Bool → MI → ML → Prop} (hK : ∀ L', (∀ a, a ≠ r → L' a = L a) → (∀ j, j < 100 → L' r j = v) → K b I L') : CV m_J_fill_3 [vr 902 r, vl v] b I L K := by
  have loop : ∀ n i, i + n = 100 → ∀ L1 : ML, (∀ a, a ≠ r → L1 a = L a) → (∀ j, j < i → L1 r j = v) → SW m_J_fill_3 6 [vr 902 r, vl v, un, vi (nI i), vi (nI 100)] [] b I L1 (kV K) := by
    intro n
    induction n with
    | zero =>
      intro i hi L1 h1 h2
      obtain rfl : i = 100 := by omega
      refine v_J_fill_3_6 ?_
      simp (disch := first | omega | assumption) only [n_lit, n_gLt, n_gLe, n_gEq, n_gEq2, n_gLe2, n_gLt2, n_m1, n_add, n_mul, n_lt, n_le, n_eq, n_cl, n_in, n_rem, n_mlt, n_mle, n_ltm, n_lem, n_eqm, n_meq, n_bit, n_shl, n_b0, n_b1, n_sub, n_inT, nT, nF, lT, lF, eT, eF, not_false_eq_true, not_true_eq_false, sI_at, sI_c, sI_j, aI_at, aI_c, sL_at, sL_c, sL_j, true_and, and_true, not_true_eq_false, not_false_eq_true, forall_const, true_implies, false_implies, implies_true, if_true, if_false, ite_true, ite_false, Bool.not_eq_true, Bool.not_eq_false, Bool.true_eq_false, Bool.false_eq_true, false_and, and_false, or_true, true_or, false_or, or_false]
      exact hK L1 h1 h2
    | succ n ih =>
      intro i hi L1 h1 h2
      refine v_J_fill_3_6 ?_
      simp (disch := first | omega | assumption) only [n_lit, n_gLt, n_gLe, n_gEq, n_gEq2, n_gLe2, n_gLt2, n_m1, n_add, n_mul, n_lt, n_le, n_eq, n_cl, n_in, n_rem, n_mlt, n_mle, n_ltm, n_lem, n_eqm, n_meq, n_bit, n_shl, n_b0, n_b1, n_sub, n_inT, nT, nF, lT, lF, eT, eF, not_false_eq_true, not_true_eq_false, sI_at, sI_c, sI_j, aI_at, aI_c, sL_at, sL_c, sL_j, true_and, and_true, not_true_eq_false, not_false_eq_true, forall_const, true_implies, false_implies, implies_true, if_true, if_false, ite_true, ite_false, Bool.not_eq_true, Bool.not_eq_false, Bool.true_eq_false, Bool.false_eq_true, false_and, and_false, or_true, true_or, false_or, or_false]
      refine ih (i + 1) (by omega) _ (fun a ha => by rw [sL_c ha, h1 a ha]) (fun j hj => ?_)
      by_cases e : j = i
      · subst e; exact sL_at _ _ _ _
      · rw [sL_j e, h2 j (by omega)]
  exact v_J_fill_3_0 (loop 100 0 (by omega) L (fun _ _ => rfl) (fun j hj => by omega))
def anyN : Nat → (Nat → Bool) → Bool
  | 0, _ => false
  | n + 1, f => anyN n f || f n
theorem anyN_iff {f : Nat → Bool} : ∀ {n : Nat}, anyN n f = true ↔ ∃ i, i < n ∧ f i = true
  | 0 => by simp [anyN]
  | n + 1 => by
    unfold anyN
    rw [Bool.or_eq_true, anyN_iff]
    constructor
    · rintro (⟨i, h1, h2⟩ | h)
      · exact ⟨i, by omega, h2⟩
      · exact ⟨n, by omega, h⟩
    · rintro ⟨i, h1, h2⟩
      by_cases e : i = n
      · subst e; exact Or.inr h2
      · exact Or.inl ⟨i, by omega, h2⟩
theorem anyN_no {f : Nat → Bool} {n : Nat} : anyN n f = false ↔ ∀ i, i < n → f i = false := by
  constructor
  · intro h i hi
    cases hf : f i with
    | false => rfl
    | true =>
      have := anyN_iff.mpr ⟨i, hi, hf⟩
      rw [h] at this
      cases this
  · intro h
    cases hf : anyN n f with
    | false => rfl
    | true =>
      obtain ⟨i, h1, h2⟩ := anyN_iff.mp hf
      rw [h i h1] at h2
      cases h2
/-- the first acts of a telling -/
def Tel.cut (t : Tel) (i : Nat) : Tel := (i, t.2)
theorem Tel.cut_n (t : Tel) : t.cut t.n = t := rfl
def Tel.wall (t : Tel) (d k : Nat) : Bool := anyN t.n (fun a => decide (t.so a = 2 ∧ t.a a = k ∧ t.b a ≤ d ∧ d ≤ t.c a))
def Tel.amt (t : Tel) (s d p : Nat) : Nat := sumN (fun a => if t.so a = s ∧ t.a a = d ∧ t.b a = p then 9 else 0) t.n
def Tel.la1 (t : Tel) : Nat := maxN (fun a => if t.so a = 2 then t.c a else t.a a) t.n
def Tel.la2 (t : Tel) : Nat := maxN (fun a => if t.so a = 2 then t.c a else 0) t.n
theorem maxN_le {f : Nat → Nat} {c : Nat} : ∀ {n : Nat}, (∀ i, i < n → f i ≤ c) → maxN f n ≤ c
  | 0, _ => Nat.zero_le _
  | n + 1, h => by
    unfold maxN
    have h1 := maxN_le (n := n) (fun i hi => h i (by omega))
    have h2 := h n (by omega)
    split <;> assumption
theorem le_maxN {f : Nat → Nat} {i : Nat} : ∀ {n : Nat}, i < n → f i ≤ maxN f n
  | n + 1, h => by
    unfold maxN
    by_cases e : i = n
    · subst e
      split <;> omega
    · have := le_maxN (f := f) (n := n) (by omega : i < n)
      split <;> omega
theorem Tel.ok_la1 {t : Tel} (h : t.ok) : t.la1 ≤ 99 := maxN_le (fun i hi => by
  have := h.2 i hi
  split
  · rename_i q
    exact (this.2.2 q).2.2
  · rename_i q
    exact (this.2.1 (by omega)).1)
theorem Tel.ok_la2 {t : Tel} (h : t.ok) : t.la2 ≤ 99 := maxN_le (fun i hi => by
  have := h.2 i hi
  split
  · rename_i q
    exact (this.2.2 q).2.2
  · omega)
theorem Tel.amt_le {t : Tel} (h : t.n ≤ 30) (s d p : Nat) : t.amt s d p ≤ 270 := by
  have := sumN_le (f := fun a => if t.so a = s ∧ t.a a = d ∧ t.b a = p then 9 else 0) (c := 9) (n := t.n) (fun i _ => by show (if _ then 9 else 0) ≤ 9; split <;> omega)
  show sumN _ t.n ≤ 270
  omega
theorem Tel.cut_ok {t : Tel} (h : t.ok) {i : Nat} (hi : i ≤ t.n) : (t.cut i).ok := ⟨Nat.le_trans hi h.1, fun k hk => h.2 k (Nat.lt_of_lt_of_le hk hi)⟩
/-- a telling laid out by days -/
def givP (m0 : Nat) (t : Tel) (I : MI) (L : ML) : Prop := (I 161 3 = nI m0 ∧ I 161 4 = nI t.la1 ∧ I 161 5 = nI t.la2) ∧ (∀ d, d < 100 → ∀ p, p < 16 → I 162 (d * 16 + p) = nI (t.amt 0 d p) ∧ I 163 (d * 16 + p) = nI (t.amt 1 d p)) ∧ ∀ d, d < 100 → ∀ k, k < 64 → bl (L 164 d) k = (t.wall d k && decide (k < m0))
theorem c_raise {m0 tie since til a1 a2 : Nat} (h0 : m0 ≤ 41) (h1 : tie ≤ 39) (h3 : til ≤ 99) {b : Bool} {I : MI} {L : ML} {K : Bool → MI → ML → Prop} (hm : I 161 3 = nI m0) (e4 : I 161 4 = nI a1) (e5 : I 161 5 = nI a2) (ha1 : a1 ≤ 99) (ha2 : a2 ≤ 99) (hs : since ≤ 99) (hK : ∀ L', (∀ a, a ≠ 164 → L' a = L a) → (∀ d, d < 100 → ∀ k, k < 64 → bl (L' 164 d) k = (bl (L 164 d) k || decide ((k = tie ∧ since ≤ d ∧ d ≤ til) ∧ k < m0))) → K b (sI (sI I 161 5 (nI (if a2 < til then til else a2))) 161 4 (nI (if a1 < til then til else a1))) L') : CV m_Given_raise [vr 12 161, vi (nI tie), vi (nI since), vi (nI til)] b I L K := by
  have loop : ∀ y : Int64, (∀ k, k < 64 → bl y k = decide (k = tie ∧ k < m0)) → ∀ n i, i + n = 100 → since ≤ i → (i ≤ til + 1 ∨ i = since) → ∀ L1 : ML, (∀ a, a ≠ 164 → L1 a = L a) → (∀ d, d < 100 → ∀ k, k < 64 → bl (L1 164 d) k = (bl (L 164 d) k || decide ((k = tie ∧ since ≤ d ∧ d < i) ∧ k < m0))) → SW m_Given_raise 20 [vr 12 161, un, un, vi (nI til), vl y, un, vi (nI i)] [] b I L1 (kV K) := by
    intro y hy n
    induction n with
    | zero =>
      intro i hi h4 h5 L1 g1 g2
      refine v_Given_raise_20 ?_
      simp (disch := first | omega | assumption) only [n_lit, n_gLt, n_gLe, n_gEq, n_gEq2, n_gLe2, n_gLt2, n_m1, n_add, n_mul, n_lt, n_le, n_eq, n_cl, n_in, n_rem, n_mlt, n_mle, n_ltm, n_lem, n_eqm, n_meq, n_bit, n_shl, n_b0, n_b1, n_sub, n_inT, nT, nF, lT, lF, eT, eF, not_false_eq_true, not_true_eq_false, sI_at, sI_c, sI_j, aI_at, aI_c, sL_at, sL_c, sL_j, true_and, and_true, not_true_eq_false, not_false_eq_true, forall_const, true_implies, false_implies, implies_true, if_true, if_false, ite_true, ite_false, Bool.not_eq_true, Bool.not_eq_false, Bool.true_eq_false, Bool.false_eq_true, false_and, and_false, or_true, true_or, false_or, or_false, e4, e5]
      have := hK L1 g1 (fun d hd k hk => by
        rw [g2 d hd k hk]
        congr 1
        exact decide_eq_decide.mpr ⟨fun q => ⟨⟨q.1.1, q.1.2.1, by omega⟩, q.2⟩, fun q => ⟨⟨q.1.1, q.1.2.1, by omega⟩, q.2⟩⟩)
      by_cases c1 : a1 < til <;> by_cases c2 : a2 < til <;> simp only [c1, c2, if_true, if_false] at this ⊢ <;> exact this
    | succ n ih =>
      intro i hi h4 h5 L1 g1 g2
      refine v_Given_raise_20 ?_
      by_cases c : til < i
      · simp (disch := first | omega | assumption) only [n_lit, n_gLt, n_gLe, n_gEq, n_gEq2, n_gLe2, n_gLt2, n_m1, n_add, n_mul, n_lt, n_le, n_eq, n_cl, n_in, n_rem, n_mlt, n_mle, n_ltm, n_lem, n_eqm, n_meq, n_bit, n_shl, n_b0, n_b1, n_sub, n_inT, nT, nF, lT, lF, eT, eF, not_false_eq_true, not_true_eq_false, sI_at, sI_c, sI_j, aI_at, aI_c, sL_at, sL_c, sL_j, true_and, and_true, not_true_eq_false, not_false_eq_true, forall_const, true_implies, false_implies, implies_true, if_true, if_false, ite_true, ite_false, Bool.not_eq_true, Bool.not_eq_false, Bool.true_eq_false, Bool.false_eq_true, false_and, and_false, or_true, true_or, false_or, or_false, e4, e5]
        have := hK L1 g1 (fun d hd k hk => by
          rw [g2 d hd k hk]
          congr 1
          exact decide_eq_decide.mpr ⟨fun q => ⟨⟨q.1.1, q.1.2.1, by omega⟩, q.2⟩, fun q => ⟨⟨q.1.1, q.1.2.1, by omega⟩, q.2⟩⟩)
        by_cases c1 : a1 < til <;> by_cases c2 : a2 < til <;> simp only [c1, c2, if_true, if_false] at this ⊢ <;> exact this
      · simp (disch := first | omega | assumption) only [n_lit, n_gLt, n_gLe, n_gEq, n_gEq2, n_gLe2, n_gLt2, n_m1, n_add, n_mul, n_lt, n_le, n_eq, n_cl, n_in, n_rem, n_mlt, n_mle, n_ltm, n_lem, n_eqm, n_meq, n_bit, n_shl, n_b0, n_b1, n_sub, n_inT, nT, nF, lT, lF, eT, eF, not_false_eq_true, not_true_eq_false, sI_at, sI_c, sI_j, aI_at, aI_c, sL_at, sL_c, sL_j, true_and, and_true, not_true_eq_false, not_false_eq_true, forall_const, true_implies, false_implies, implies_true, if_true, if_false, ite_true, ite_false, Bool.not_eq_true, Bool.not_eq_false, Bool.true_eq_false, Bool.false_eq_true, false_and, and_false, or_true, true_or, false_or, or_false]
        refine ih (i + 1) (by omega) (by omega) (by omega) _ (fun a ha => by rw [sL_c ha, g1 a ha]) (fun d hd k hk => ?_)
        by_cases e : d = i
        · subst e
          rw [sL_at, l_or, g2 d hd k hk, hy k hk, Bool.or_assoc, ← Bool.decide_or]
          congr 1
          exact decide_eq_decide.mpr ⟨fun q => by omega, fun q => Or.inr ⟨q.1.1, q.2⟩⟩
        · rw [sL_j e, g2 d hd k hk]
          congr 1
          exact decide_eq_decide.mpr ⟨fun q => ⟨⟨q.1.1, q.1.2.1, by omega⟩, q.2⟩, fun q => ⟨⟨q.1.1, q.1.2.1, by omega⟩, q.2⟩⟩
  have start : ∀ d, d < 100 → ∀ k, k < 64 → bl (L 164 d) k = (bl (L 164 d) k || decide ((k = tie ∧ since ≤ d ∧ d < since) ∧ k < m0)) := fun d hd k hk => by
    rw [decide_eq_false (by omega), Bool.or_false]
  refine v_Given_raise_0 ⟨fun q => ?_, fun q => ?_⟩
  · rw [hm, n_le (by omega) (by omega)] at q
    refine loop 0 (fun k hk => ?_) (100 - since) since (by omega) (Nat.le_refl _) (Or.inr rfl) L (fun _ _ => rfl) start
    rw [l_0, decide_eq_false (by omega)]
  · rw [hm, n_le (by omega) (by omega)] at q
    refine loop _ (fun k hk => ?_) (100 - since) since (by omega) (Nat.le_refl _) (Or.inr rfl) L (fun _ _ => rfl) start
    rw [l_shl tie (by omega) 1 hk]
    by_cases c : tie ≤ k
    · rw [decide_eq_true c, l_1 _ (by omega), Bool.true_and]
      exact decide_eq_decide.mpr ⟨fun _ => by omega, fun _ => by omega⟩
    · rw [decide_eq_false c, decide_eq_false (by omega), Bool.false_and]
