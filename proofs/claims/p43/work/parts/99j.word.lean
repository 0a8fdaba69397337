/-! TEXTS: the class's words -/
theorem lts_iff {y : Nat → Nat} : ∀ (k w : Nat) (l : List Nat), lts y k w = l ↔ l.length = k ∧ ∀ q, q < k → y (w + q) = l.getD q 0
  | 0, w, l => by
    constructor
    · intro h
      have h : [] = l := h
      rw [← h]
      exact ⟨rfl, fun q hq => absurd hq (Nat.not_lt_zero _)⟩
    · rintro ⟨h, -⟩
      exact (List.eq_nil_of_length_eq_zero h).symm
  | k + 1, w, l => by
    cases l with
    | nil => exact ⟨fun h => (by cases h), fun h => absurd h.1 (by intro e; cases e)⟩
    | cons x l =>
      have ih := lts_iff (y := y) k (w + 1) l
      constructor
      · intro h
        have h : y w :: lts y k (w + 1) = x :: l := h
        obtain ⟨h1, h2⟩ := List.cons.inj h
        obtain ⟨g1, g2⟩ := ih.mp h2
        refine ⟨by rw [List.length_cons, g1], fun q hq => ?_⟩
        cases q with
        | zero => exact h1
        | succ q =>
          have := g2 q (by omega)
          rw [show w + 1 + q = w + (q + 1) by omega] at this
          exact this
      · rintro ⟨h1, h2⟩
        have e1 : y w = x := h2 0 (by omega)
        have e2 : lts y k (w + 1) = l := ih.mpr ⟨by rw [List.length_cons] at h1; omega, fun q hq => by
          have := h2 (q + 1) (by omega)
          rw [show w + (q + 1) = w + 1 + q by omega] at this
          exact this⟩
        show y w :: lts y k (w + 1) = x :: l
        rw [e1, e2]
theorem slen_W : ∀ i, i < 14 → slen i = (nmW i).length := by decide +kernel
theorem sch_W : ∀ i, i < 14 → ∀ q, q < 6 → q < (nmW i).length → sch i q = nI ((nmW i).getD q 0) := by decide +kernel
theorem nmW_lt : ∀ i, i < 14 → ∀ q, q < 6 → (nmW i).getD q 0 < 256 := by decide +kernel
theorem c_spells {y : Nat → Nat} {n w i : Nat} {I : MI} {L : ML} (T : TP y n I) (R : RT y n w I) (hw : w ≤ n) (hi : i < 14) {K : Int32 → Bool → MI → ML → Prop} (hK : K (nI (isW y n w i).toNat) true I L) : CI m_Reader_spells [vr 13 139, vr 2 i] true I L K := by
  have T2 := T.1.2
  obtain ⟨h1, h2, h3⟩ := nxt_le (y := y) hw
  have hl := nmW_len i hi
  have el := slen_W i hi
  unfold isW at hK
  have loop : ∀ k j, j + k = (nmW i).length → nxt y n w - w = (nmW i).length → (∀ q, q < j → y (w + q) = (nmW i).getD q 0) → SW m_Reader_spells 20 [vr 13 139, vr 2 i, vi (nI j)] [] true I L (kI K) := by
    intro k
    induction k with
    | zero =>
      intro j hj e hq
      rw [decide_eq_true ((lts_iff _ _ _).mpr ⟨e.symm, fun q hq2 => hq q (by omega)⟩)] at hK
      refine v_Reader_spells_20 ⟨fun _ => ⟨Or.inr rfl, hK⟩, fun z => absurd ?_ z⟩
      rw [el]
      show nI (nmW i).length ≤ nI j
      rw [n_le (by omega) (by omega)]
      omega
    | succ k ih =>
      intro j hj e hq
      refine v_Reader_spells_20 ⟨fun z => absurd z ?_, fun _ => ⟨rfl, ?_⟩⟩
      · rw [el]
        show ¬ nI (nmW i).length ≤ nI j
        rw [n_le (by omega) (by omega)]
        omega
      · rw [R.2.2.1, n_add, n_cl (by omega), el, show nI j + (1 : Int32) = nI (j + 1) from n_add j 1]
        refine c_at T (by omega) (fun hp => ⟨by rw [n_in (by omega)]; omega, ?_⟩) (fun z => absurd z (by omega))
        have hy := T.2.2 _ hp
        have hc := nmW_lt i hi j (by omega)
        rw [sch_W i hi j (by omega) (by omega), n_eq (by omega) (by omega)]
        refine ⟨fun z => ih (j + 1) (by omega) e (fun q hq2 => ?_), fun z => ⟨Or.inl rfl, ?_⟩⟩
        · by_cases c : q = j
          · rw [c]
            exact z
          · exact hq q (by omega)
        · rw [decide_eq_false (fun g => z (((lts_iff _ _ _).mp g).2 j (by omega)))] at hK
          exact hK
  refine v_Reader_spells_0 ?_
  rw [R.1, R.2.2.1, n_sub h1, el]
  show (nI (nxt y n w - w) = nI (nmW i).length → _) ∧ (¬ nI (nxt y n w - w) = nI (nmW i).length → _)
  rw [n_eq (by omega) (by omega)]
  refine ⟨fun z => loop (nmW i).length 0 (by omega) z (fun q hq => absurd hq (Nat.not_lt_zero _)), fun z => ⟨Or.inl rfl, ?_⟩⟩
  rw [decide_eq_false (fun g => z ((lts_iff _ _ _).mp g).1.symm)] at hK
  exact hK
theorem c_spelling {i : Nat} (hi : i < 14) {b : Bool} {I : MI} {L : ML} {K : Nat → Bool → MI → ML → Prop} (hK : K i b I L) : CT m_Reader_spelling 2 [vi (nI i)] b I L K := by
  refine v_Reader_spelling_0 ?_
  rcases (by omega : i = 0 ∨ i = 1 ∨ i = 2 ∨ i = 3 ∨ i = 4 ∨ i = 5 ∨ i = 6 ∨ i = 7 ∨ i = 8 ∨ i = 9 ∨ i = 10 ∨ i = 11 ∨ i = 12 ∨ i = 13) with rfl | rfl | rfl | rfl | rfl | rfl | rfl | rfl | rfl | rfl | rfl | rfl | rfl | rfl <;> simp (disch := first | omega | assumption) only [n_lit, n_gLt, n_gLe, n_gEq, n_gEq2, n_gLe2, n_gLt2, n_m1, n_add, n_mul, n_lt, n_le, n_eq, n_cl, n_in, n_rem, n_mlt, n_mle, n_ltm, n_lem, n_eqm, n_meq, n_bit, n_shl, n_b0, n_b1, n_sub, n_inT, nT, nF, lT, lF, eT, eF, not_false_eq_true, not_true_eq_false, sI_at, sI_c, sI_j, aI_at, aI_c, sL_at, sL_c, sL_j, true_and, and_true, not_true_eq_false, not_false_eq_true, forall_const, true_implies, false_implies, implies_true, if_true, if_false, ite_true, ite_false, Bool.not_eq_true, Bool.not_eq_false, Bool.true_eq_false, Bool.false_eq_true, false_and, and_false, or_true, true_or, false_or, or_false] <;> exact hK
theorem c_wordOf {y : Nat → Nat} {n w sort : Nat} {I : MI} {L : ML} (T : TP y n I) (R : RT y n w I) (hw : w ≤ n) (hs : sort ≤ 1) (k1 : kin y n w = 1) {K : Int32 → Bool → MI → ML → Prop} (hK : K (optI (wrdS y n sort w)) true I L) : CI m_Reader_wordOf [vr 13 139, vi (nI sort)] true I L K := by
  have loop : ∀ top, top ≤ 14 → ∀ k i, i + k = top → K (optI (fstN (isW y n w) k i)) true I L → SW m_Reader_wordOf 26 [vr 13 139, un, un, vi (nI top), vi (nI i)] [] true I L (kI K) := by
    intro top ht k
    induction k with
    | zero =>
      intro i hi kk
      exact v_Reader_wordOf_26 ⟨fun _ => kk, fun z => absurd (by rw [n_le (by omega) (by omega)]; omega) z⟩
    | succ k ih =>
      intro i hi kk
      unfold fstN at kk
      refine v_Reader_wordOf_26 ⟨fun z => absurd z (by rw [n_le (by omega) (by omega)]; omega), fun _ => c_spelling (by omega) (c_spells T R hw (by omega) ?_)⟩
      rw [show nI i + (1 : Int32) = nI (i + 1) from n_add i 1]
      cases c : isW y n w i with
      | true =>
        rw [if_pos c] at kk
        exact ⟨fun z => absurd z (by decide), fun _ => kk⟩
      | false =>
        rw [if_neg (by rw [c]; exact Bool.false_ne_true)] at kk
        exact ⟨fun _ => ih (i + 1) (by omega) kk, fun z => absurd rfl z⟩
  unfold wrdS at hK
  rw [if_pos k1] at hK
  refine v_Reader_wordOf_0 ?_
  rcases (by omega : sort = 0 ∨ sort = 1) with rfl | rfl
  · rw [if_pos rfl] at hK
    exact ⟨fun z => absurd rfl z, fun _ => ⟨fun z => absurd rfl z, fun _ => loop 11 (by omega) 11 0 (by omega) hK⟩⟩
  · rw [if_neg (by decide)] at hK
    exact ⟨fun _ => ⟨fun _ => loop 14 (by omega) 3 11 (by omega) hK, fun z => absurd (by decide) z⟩, fun z => absurd (by decide) z⟩
