/-! TEXTS: the class's lines -/
def RC (S : Sm) (a : Nat) (I : MI) : Prop := (I 139 2 = nI S.fl ∧ I 139 3 = if S.fl = 0 then nM else nI S.pl) ∧ (S.fl = 0 → I 139 9 = nI S.gr ∧ vilC 140 S.vv I ∧ telC 147 S.tt I ∧ ∀ j, j < a → j < 4 → I 152 j = nI (S.nb j))
/-- nothing but the reader's own cells is another one -/
def qfr (I I' : MI) : Prop := ∀ a, a < 139 ∨ 153 ≤ a → I' a = I a
theorem qfr.trans {I I' I'' : MI} (h : qfr I I') (k : qfr I' I'') : qfr I I'' := fun a ha => (k a ha).trans (h a ha)
theorem qfr.tp {y : Nat → Nat} {n : Nat} {I I' : MI} (h : qfr I I') (T : TP y n I) : TP y n I' := T.fr (h 4 (by omega)) (h 5 (by omega))
theorem rfr.q {I I' : MI} (h : rfr I I') : qfr I I' := fun a ha => h.1 a (by omega)
theorem qfr_s {I : MI} {c j : Nat} {v : Int32} (h : 139 ≤ c ∧ c < 153) : qfr I (sI I c j v) := fun a ha => sI_c (by omega)
theorem RC.r {S : Sm} {a : Nat} {I I' : MI} (h : RC S a I) (k : rfr I I') : RC S a I' := by
  obtain ⟨⟨h1, h2⟩, h3⟩ := h
  refine ⟨⟨(k.2 2 (by omega) (by omega) (by omega) (by omega)).trans h1, (k.2 3 (by omega) (by omega) (by omega) (by omega)).trans h2⟩, fun q => ?_⟩
  obtain ⟨g1, g2, g3, g4⟩ := h3 q
  refine ⟨(k.2 9 (by omega) (by omega) (by omega) (by omega)).trans g1, vilC_fr (fun c c1 c2 => k.1 c (by omega)) g2, telC_fr (fun c c1 c2 => k.1 c (by omega)) g3, fun j hj hj4 => ?_⟩
  rw [k.1 152 (by omega)]
  exact g4 j hj hj4
theorem RC.less {S : Sm} {a a' : Nat} {I : MI} (h : RC S a I) (k : a' ≤ a) : RC S a' I := ⟨h.1, fun q => ⟨(h.2 q).1, (h.2 q).2.1, (h.2 q).2.2.1, fun j hj => (h.2 q).2.2.2 j (by omega)⟩⟩
/-- the token stays as it is -/
def tfr (I I' : MI) : Prop := qfr I I' ∧ ∀ j, 5 ≤ j → j ≤ 8 → I' 139 j = I 139 j
theorem tfr.trans {I I' I'' : MI} (h : tfr I I') (k : tfr I' I'') : tfr I I'' := ⟨h.1.trans k.1, fun j q1 q2 => (k.2 j q1 q2).trans (h.2 j q1 q2)⟩
theorem tfr.rt {y : Nat → Nat} {n w : Nat} {I I' : MI} (h : tfr I I') (R : RT y n w I) : RT y n w I' := by
  unfold RT
  rw [h.2 5 (by omega) (by omega), h.2 6 (by omega) (by omega), h.2 7 (by omega) (by omega), h.2 8 (by omega) (by omega)]
  exact R
theorem tfr_0 {I : MI} : tfr I I := ⟨fun _ _ => rfl, fun _ _ _ => rfl⟩
theorem tfr_s {I : MI} {c j : Nat} {v : Int32} (h : 140 ≤ c ∧ c < 153 ∨ c = 139 ∧ (j < 5 ∨ 8 < j)) : tfr I (sI I c j v) := ⟨fun a ha => sI_c (by omega), fun i q1 q2 => by
  by_cases e : c = 139
  · subst e
    exact sI_j (by omega)
  · exact congrFun (sI_c (fun z => e z.symm)) i⟩
theorem c_blame {y : Nat → Nat} {n w k a : Nat} {S : Sm} {I : MI} {L : ML} (hS : S.fl ≤ 4) (R : RT y n w I) (C : RC S a I) {K : Bool → MI → ML → Prop} (hK : ∀ I', tfr I I' → RC (blm k w S) a I' → K true I' L) (hk : k ≠ 0) : CV m_Reader_blame [vr 13 139, vi (nI k)] true I L K := by
  refine v_Reader_blame_0 ?_
  rw [C.1.1, R.2.2.1, show (0 : Int32) = nI 0 from rfl, n_eq (by omega) (by omega)]
  unfold blm at hK
  refine ⟨fun q => ?_, fun q => ?_⟩
  · rw [if_neg q] at hK
    exact hK I tfr_0 C
  · rw [if_pos (Decidable.not_not.mp q)] at hK
    refine hK _ ((tfr_s (by omega)).trans (tfr_s (by omega))) ⟨⟨?_, ?_⟩, fun z => absurd z hk⟩
    · rw [sI_j (by omega), sI_at]
      rfl
    · rw [sI_at]
      exact (if_neg hk).symm
theorem c_stray {y : Nat → Nat} {n w : Nat} {S : Sm} {I : MI} {L : ML} (R : RT y n w I) {K : Int32 → Bool → MI → ML → Prop} (hK : ∀ I', tfr I I' → RC (sty w S) 0 I' → K (nI 0) true I' L) : CI m_Reader_stray [vr 13 139] true I L K := by
  refine v_Reader_stray_0 ⟨Or.inl rfl, ?_⟩
  rw [R.2.2.1]
  exact hK _ ((tfr_s (by omega)).trans (tfr_s (by omega))) ⟨⟨by rw [sI_j (by omega), sI_at]; rfl, by rw [sI_at]; rfl⟩, fun z => absurd z (by decide : ¬ (1 : Nat) = 0)⟩
theorem c_needed {i : Nat} (hi : i < 14) {b : Bool} {I : MI} {L : ML} {K : Int32 → Bool → MI → ML → Prop} (hK : K (nI (needW i)) b I L) : CI m_Reader_needed [vi (nI i)] b I L K := by
  refine v_Reader_needed_0 ?_
  rcases (by omega : i = 0 ∨ i = 1 ∨ i = 2 ∨ i = 3 ∨ i = 4 ∨ i = 5 ∨ i = 6 ∨ i = 7 ∨ i = 8 ∨ i = 9 ∨ i = 10 ∨ i = 11 ∨ i = 12 ∨ i = 13) with rfl | rfl | rfl | rfl | rfl | rfl | rfl | rfl | rfl | rfl | rfl | rfl | rfl | rfl <;> simp (disch := first | omega | assumption) only [n_lit, n_gLt, n_gLe, n_gEq, n_gEq2, n_gLe2, n_gLt2, n_m1, n_add, n_mul, n_lt, n_le, n_eq, n_cl, n_in, n_rem, n_mlt, n_mle, n_ltm, n_lem, n_eqm, n_meq, n_bit, n_shl, n_b0, n_b1, n_sub, n_inT, nT, nF, lT, lF, eT, eF, not_false_eq_true, not_true_eq_false, sI_at, sI_c, sI_j, aI_at, aI_c, sL_at, sL_c, sL_j, true_and, and_true, not_true_eq_false, not_false_eq_true, forall_const, true_implies, false_implies, implies_true, if_true, if_false, ite_true, ite_false, Bool.not_eq_true, Bool.not_eq_false, Bool.true_eq_false, Bool.false_eq_true, false_and, and_false, or_true, true_or, false_or, or_false] <;> exact hK
theorem c_isKind {i : Nat} (hi : i < 14) {b : Bool} {I : MI} {L : ML} {K : Int32 → Bool → MI → ML → Prop} (hK : K (nI (isKW i).toNat) b I L) : CI m_Reader_isKind [vi (nI i)] b I L K := by
  refine v_Reader_isKind_0 ?_
  unfold isKW at hK
  by_cases c1 : 1 ≤ i
  · by_cases c2 : i ≤ 6
    · rw [decide_eq_true ⟨c1, c2⟩] at hK
      have hK : K (nI 1) b I L := hK
      simp (disch := first | omega | assumption) only [n_lit, n_gLt, n_gLe, n_gEq, n_gEq2, n_gLe2, n_gLt2, n_m1, n_add, n_mul, n_lt, n_le, n_eq, n_cl, n_in, n_rem, n_mlt, n_mle, n_ltm, n_lem, n_eqm, n_meq, n_bit, n_shl, n_b0, n_b1, n_sub, n_inT, nT, nF, lT, lF, eT, eF, not_false_eq_true, not_true_eq_false, sI_at, sI_c, sI_j, aI_at, aI_c, sL_at, sL_c, sL_j, true_and, and_true, not_true_eq_false, not_false_eq_true, forall_const, true_implies, false_implies, implies_true, if_true, if_false, ite_true, ite_false, Bool.not_eq_true, Bool.not_eq_false, Bool.true_eq_false, Bool.false_eq_true, false_and, and_false, or_true, true_or, false_or, or_false]
      exact hK
    · rw [decide_eq_false (fun q => c2 q.2)] at hK
      have hK : K (nI 0) b I L := hK
      simp (disch := first | omega | assumption) only [n_lit, n_gLt, n_gLe, n_gEq, n_gEq2, n_gLe2, n_gLt2, n_m1, n_add, n_mul, n_lt, n_le, n_eq, n_cl, n_in, n_rem, n_mlt, n_mle, n_ltm, n_lem, n_eqm, n_meq, n_bit, n_shl, n_b0, n_b1, n_sub, n_inT, nT, nF, lT, lF, eT, eF, not_false_eq_true, not_true_eq_false, sI_at, sI_c, sI_j, aI_at, aI_c, sL_at, sL_c, sL_j, true_and, and_true, not_true_eq_false, not_false_eq_true, forall_const, true_implies, false_implies, implies_true, if_true, if_false, ite_true, ite_false, Bool.not_eq_true, Bool.not_eq_false, Bool.true_eq_false, Bool.false_eq_true, false_and, and_false, or_true, true_or, false_or, or_false]
      exact hK
  · rw [decide_eq_false (fun q => c1 q.1)] at hK
    have hK : K (nI 0) b I L := hK
    simp (disch := first | omega | assumption) only [n_lit, n_gLt, n_gLe, n_gEq, n_gEq2, n_gLe2, n_gLt2, n_m1, n_add, n_mul, n_lt, n_le, n_eq, n_cl, n_in, n_rem, n_mlt, n_mle, n_ltm, n_lem, n_eqm, n_meq, n_bit, n_shl, n_b0, n_b1, n_sub, n_inT, nT, nF, lT, lF, eT, eF, not_false_eq_true, not_true_eq_false, sI_at, sI_c, sI_j, aI_at, aI_c, sL_at, sL_c, sL_j, true_and, and_true, not_true_eq_false, not_false_eq_true, forall_const, true_implies, false_implies, implies_true, if_true, if_false, ite_true, ite_false, Bool.not_eq_true, Bool.not_eq_false, Bool.true_eq_false, Bool.false_eq_true, false_and, and_false, or_true, true_or, false_or, or_false]
    exact hK
theorem c_isPerson {i a : Nat} (hi : i < 14) (ha : a ≤ 600) {b : Bool} {I : MI} {L : ML} {K : Int32 → Bool → MI → ML → Prop} (hK : K (nI (isPW i a).toNat) b I L) : CI m_Reader_isPerson [vi (nI i), vi (nI a)] b I L K := by
  refine v_Reader_isPerson_0 (c_isKind hi ?_)
  unfold isPW at hK
  cases k : isKW i with
  | true =>
    rw [k, Bool.true_or] at hK
    exact ⟨fun _ => ⟨Or.inr rfl, hK⟩, fun z => absurd (by decide) z⟩
  | false =>
    rw [k, Bool.false_or] at hK
    refine ⟨fun z => absurd rfl z, fun _ => ?_⟩
    rw [show (7 : Int32) = nI 7 from rfl, show (8 : Int32) = nI 8 from rfl, show (1 : Int32) = nI 1 from rfl, show (0 : Int32) = nI 0 from rfl, n_eq (a := i) (b := 7) (by omega) (by omega), n_eq (a := i) (b := 8) (by omega) (by omega), n_eq (a := a) (b := 0) (by omega) (by omega), n_lt (by omega) (by omega)]
    by_cases c7 : i = 7
    · rw [show decide (i = 8 ∧ a ≤ 1) = false from decide_eq_false (by omega), Bool.or_false] at hK
      refine ⟨fun z => absurd c7 z, fun _ => ⟨fun z => ⟨Or.inr rfl, ?_⟩, fun z => ⟨fun _ => ⟨Or.inl rfl, ?_⟩, fun q => absurd (by omega) q⟩⟩⟩
      · rw [decide_eq_true ⟨c7, z⟩] at hK
        exact hK
      · rw [decide_eq_false (fun q => z q.2)] at hK
        exact hK
    · rw [show decide (i = 7 ∧ a = 0) = false from decide_eq_false (by omega), Bool.false_or] at hK
      refine ⟨fun _ => ⟨fun z => ⟨Or.inl rfl, ?_⟩, fun z => ⟨fun q => ⟨Or.inl rfl, ?_⟩, fun q => ⟨Or.inr rfl, ?_⟩⟩⟩, fun z => absurd c7 z⟩
      · rw [decide_eq_false (fun q => z q.1)] at hK
        exact hK
      · rw [decide_eq_false (by omega)] at hK
        exact hK
      · rw [decide_eq_true ⟨Decidable.not_not.mp z, by omega⟩] at hK
        exact hK
theorem vp40 : vp_in (0 : Int32) 4 := by
  rw [show (0 : Int32) = nI 0 from rfl, n_in (by omega)]
  omega
theorem c_mayBe {i a x : Nat} {S : Sm} {I : MI} (hi : i < 14) (ha : a ≤ 600) (hx : x ≤ 99) (e8 : I 139 8 = nI x) (C : RC S a I) (N : nbI i a S) {b : Bool} {L : ML} {K : Int32 → Bool → MI → ML → Prop} (hK : ∀ c : Bool, (S.fl = 0 → c = mayW i a x S.nb) → K (nI c.toNat) b I L) : CI m_Reader_mayBe [vr 13 139, vi (nI i), vi (nI a)] b I L K := by
  refine v_Reader_mayBe_0 (c_isPerson hi ha ?_)
  have yes : ∀ c : Bool, (S.fl = 0 → c = mayW i a x S.nb) → c = true → K (nI 1) b I L := fun c h e => by
    have := hK c h
    rw [e] at this
    exact this
  have nay : ∀ c : Bool, (S.fl = 0 → c = mayW i a x S.nb) → c = false → K (nI 0) b I L := fun c h e => by
    have := hK c h
    rw [e] at this
    exact this
  have em : mayW i a x S.nb = mayW i a x S.nb := rfl
  unfold mayW at em
  cases hp : isPW i a with
  | true =>
    rw [hp, if_pos rfl] at em
    -- one of the people
    refine ⟨fun z => absurd z (by decide), fun _ => ?_⟩
    rw [e8, show (16 : Int32) = nI 16 from rfl, n_le (a := 16) (by omega) (by omega), show (8 : Int32) = nI 8 from rfl, show (1 : Int32) = nI 1 from rfl, n_eq (a := i) (b := 8) (by omega) (by omega), n_eq (a := a) (b := 1) (by omega) (by omega)]
    by_cases c16 : 16 ≤ x
    · refine ⟨fun _ => ⟨Or.inl rfl, nay false (fun _ => ?_) rfl⟩, fun z => absurd c16 z⟩
      unfold mayW
      rw [if_pos hp, decide_eq_false (by omega), Bool.false_and]
    · have ex : decide (x < 16) = true := decide_eq_true (by omega)
      refine ⟨fun z => absurd z c16, fun _ => ⟨fun z => ⟨Or.inr rfl, yes true (fun _ => ?_) rfl⟩, fun z => ⟨fun q => ⟨Or.inr rfl, yes true (fun _ => ?_) rfl⟩, fun q => ⟨vp40, fun g => ⟨Or.inl rfl, nay (!decide (nI x = I 152 0)) (fun h0 => ?_) ?_⟩, fun g => ⟨Or.inr rfl, yes (!decide (nI x = I 152 0)) (fun h0 => ?_) ?_⟩⟩⟩⟩⟩
      · unfold mayW
        rw [if_pos hp, ex, decide_eq_false (fun g => z g.1.1)]
        rfl
      · unfold mayW
        rw [if_pos hp, ex, decide_eq_false (fun g => q g.1.2)]
        rfl
      · have q := Decidable.not_not.mp q
        have z := Decidable.not_not.mp z
        have e0 := (C.2 h0).2.2.2 0 (by omega) (by omega)
        have b0 := ((N h0).2 0 (by omega) (by omega)).1
        unfold mayW
        rw [if_pos hp, ex, Bool.true_and, e0]
        congr 1
        exact decide_eq_decide.mpr ⟨fun g => ⟨⟨z, q⟩, by rw [n_eq (by omega) (by omega)] at g; exact g⟩, fun g => by rw [n_eq (by omega) (by omega)]; exact g.2⟩
      · rw [decide_eq_true (show nI x = I 152 0 from g)]
        rfl
      · have q := Decidable.not_not.mp q
        have z := Decidable.not_not.mp z
        have e0 := (C.2 h0).2.2.2 0 (by omega) (by omega)
        have b0 := ((N h0).2 0 (by omega) (by omega)).1
        unfold mayW
        rw [if_pos hp, ex, Bool.true_and, e0]
        congr 1
        exact decide_eq_decide.mpr ⟨fun g => ⟨⟨z, q⟩, by rw [n_eq (by omega) (by omega)] at g; exact g⟩, fun g => by rw [n_eq (by omega) (by omega)]; exact g.2⟩
      · rw [decide_eq_false (show ¬ nI x = I 152 0 from g)]
        rfl
  | false =>
    clear em
    have em : mayW i a x S.nb = if i = 0 then decide (1 ≤ x ∧ x ≤ 16) else if i = 7 then decide (1 ≤ x) else if i = 8 then decide (1 ≤ x ∧ x ≤ if a = 2 then 3 else 9) else if i = 9 then decide (x ≤ 3) else if i = 10 then decide (x ≤ 30) else if i = 13 then (if a = 0 then decide (x < 40) else if a = 1 then true else decide (S.nb 1 ≤ x)) else decide (a = 0 ∨ x < 16) := by
      unfold mayW
      rw [if_neg (by rw [hp]; exact Bool.false_ne_true)]
    refine ⟨fun _ => ?_, fun z => absurd rfl z⟩
    rw [e8]
    have hk : isKW i = false := by
      unfold isPW at hp
      cases q : isKW i with
      | false => rfl
      | true =>
        rw [q] at hp
        cases hp
    have hk : ¬ (1 ≤ i ∧ i ≤ 6) := of_decide_eq_false hk
    rcases (by omega : i = 0 ∨ i = 7 ∨ i = 8 ∨ i = 9 ∨ i = 10 ∨ i = 11 ∨ i = 12 ∨ i = 13) with rfl | rfl | rfl | rfl | rfl | rfl | rfl | rfl
    · have em : mayW 0 a x S.nb = decide (1 ≤ x ∧ x ≤ 16) := em
      by_cases c : 1 ≤ x
      · by_cases d : x ≤ 16
        · have g := yes true (fun _ => by rw [em, decide_eq_true ⟨c, d⟩]) rfl
          simp (disch := first | omega | assumption) only [n_lit, n_gLt, n_gLe, n_gEq, n_gEq2, n_gLe2, n_gLt2, n_m1, n_add, n_mul, n_lt, n_le, n_eq, n_cl, n_in, n_rem, n_mlt, n_mle, n_ltm, n_lem, n_eqm, n_meq, n_bit, n_shl, n_b0, n_b1, n_sub, n_inT, nT, nF, lT, lF, eT, eF, not_false_eq_true, not_true_eq_false, sI_at, sI_c, sI_j, aI_at, aI_c, sL_at, sL_c, sL_j, true_and, and_true, not_true_eq_false, not_false_eq_true, forall_const, true_implies, false_implies, implies_true, if_true, if_false, ite_true, ite_false, Bool.not_eq_true, Bool.not_eq_false, Bool.true_eq_false, Bool.false_eq_true, false_and, and_false, or_true, true_or, false_or, or_false]
          exact g
        · have g := nay false (fun _ => by rw [em, decide_eq_false (by omega)]) rfl
          simp (disch := first | omega | assumption) only [n_lit, n_gLt, n_gLe, n_gEq, n_gEq2, n_gLe2, n_gLt2, n_m1, n_add, n_mul, n_lt, n_le, n_eq, n_cl, n_in, n_rem, n_mlt, n_mle, n_ltm, n_lem, n_eqm, n_meq, n_bit, n_shl, n_b0, n_b1, n_sub, n_inT, nT, nF, lT, lF, eT, eF, not_false_eq_true, not_true_eq_false, sI_at, sI_c, sI_j, aI_at, aI_c, sL_at, sL_c, sL_j, true_and, and_true, not_true_eq_false, not_false_eq_true, forall_const, true_implies, false_implies, implies_true, if_true, if_false, ite_true, ite_false, Bool.not_eq_true, Bool.not_eq_false, Bool.true_eq_false, Bool.false_eq_true, false_and, and_false, or_true, true_or, false_or, or_false]
          exact g
      · have g := nay false (fun _ => by rw [em, decide_eq_false (by omega)]) rfl
        simp (disch := first | omega | assumption) only [n_lit, n_gLt, n_gLe, n_gEq, n_gEq2, n_gLe2, n_gLt2, n_m1, n_add, n_mul, n_lt, n_le, n_eq, n_cl, n_in, n_rem, n_mlt, n_mle, n_ltm, n_lem, n_eqm, n_meq, n_bit, n_shl, n_b0, n_b1, n_sub, n_inT, nT, nF, lT, lF, eT, eF, not_false_eq_true, not_true_eq_false, sI_at, sI_c, sI_j, aI_at, aI_c, sL_at, sL_c, sL_j, true_and, and_true, not_true_eq_false, not_false_eq_true, forall_const, true_implies, false_implies, implies_true, if_true, if_false, ite_true, ite_false, Bool.not_eq_true, Bool.not_eq_false, Bool.true_eq_false, Bool.false_eq_true, false_and, and_false, or_true, true_or, false_or, or_false]
        exact g
    · have em : mayW 7 a x S.nb = decide (1 ≤ x) := em
      by_cases c : 1 ≤ x
      · have g := yes true (fun _ => by rw [em, decide_eq_true c]) rfl
        simp (disch := first | omega | assumption) only [n_lit, n_gLt, n_gLe, n_gEq, n_gEq2, n_gLe2, n_gLt2, n_m1, n_add, n_mul, n_lt, n_le, n_eq, n_cl, n_in, n_rem, n_mlt, n_mle, n_ltm, n_lem, n_eqm, n_meq, n_bit, n_shl, n_b0, n_b1, n_sub, n_inT, nT, nF, lT, lF, eT, eF, not_false_eq_true, not_true_eq_false, sI_at, sI_c, sI_j, aI_at, aI_c, sL_at, sL_c, sL_j, true_and, and_true, not_true_eq_false, not_false_eq_true, forall_const, true_implies, false_implies, implies_true, if_true, if_false, ite_true, ite_false, Bool.not_eq_true, Bool.not_eq_false, Bool.true_eq_false, Bool.false_eq_true, false_and, and_false, or_true, true_or, false_or, or_false]
        exact g
      · have g := nay false (fun _ => by rw [em, decide_eq_false c]) rfl
        simp (disch := first | omega | assumption) only [n_lit, n_gLt, n_gLe, n_gEq, n_gEq2, n_gLe2, n_gLt2, n_m1, n_add, n_mul, n_lt, n_le, n_eq, n_cl, n_in, n_rem, n_mlt, n_mle, n_ltm, n_lem, n_eqm, n_meq, n_bit, n_shl, n_b0, n_b1, n_sub, n_inT, nT, nF, lT, lF, eT, eF, not_false_eq_true, not_true_eq_false, sI_at, sI_c, sI_j, aI_at, aI_c, sL_at, sL_c, sL_j, true_and, and_true, not_true_eq_false, not_false_eq_true, forall_const, true_implies, false_implies, implies_true, if_true, if_false, ite_true, ite_false, Bool.not_eq_true, Bool.not_eq_false, Bool.true_eq_false, Bool.false_eq_true, false_and, and_false, or_true, true_or, false_or, or_false]
        exact g
    · have em : mayW 8 a x S.nb = decide (1 ≤ x ∧ x ≤ if a = 2 then 3 else 9) := em
      by_cases c : 1 ≤ x
      · by_cases a2 : a = 2
        · rw [if_pos a2] at em
          subst a2
          by_cases d : x ≤ 3
          · have g := yes true (fun _ => by rw [em, decide_eq_true ⟨c, d⟩]) rfl
            simp (disch := first | omega | assumption) only [n_lit, n_gLt, n_gLe, n_gEq, n_gEq2, n_gLe2, n_gLt2, n_m1, n_add, n_mul, n_lt, n_le, n_eq, n_cl, n_in, n_rem, n_mlt, n_mle, n_ltm, n_lem, n_eqm, n_meq, n_bit, n_shl, n_b0, n_b1, n_sub, n_inT, nT, nF, lT, lF, eT, eF, not_false_eq_true, not_true_eq_false, sI_at, sI_c, sI_j, aI_at, aI_c, sL_at, sL_c, sL_j, true_and, and_true, not_true_eq_false, not_false_eq_true, forall_const, true_implies, false_implies, implies_true, if_true, if_false, ite_true, ite_false, Bool.not_eq_true, Bool.not_eq_false, Bool.true_eq_false, Bool.false_eq_true, false_and, and_false, or_true, true_or, false_or, or_false]
            exact g
          · have g := nay false (fun _ => by rw [em, decide_eq_false (by omega)]) rfl
            simp (disch := first | omega | assumption) only [n_lit, n_gLt, n_gLe, n_gEq, n_gEq2, n_gLe2, n_gLt2, n_m1, n_add, n_mul, n_lt, n_le, n_eq, n_cl, n_in, n_rem, n_mlt, n_mle, n_ltm, n_lem, n_eqm, n_meq, n_bit, n_shl, n_b0, n_b1, n_sub, n_inT, nT, nF, lT, lF, eT, eF, not_false_eq_true, not_true_eq_false, sI_at, sI_c, sI_j, aI_at, aI_c, sL_at, sL_c, sL_j, true_and, and_true, not_true_eq_false, not_false_eq_true, forall_const, true_implies, false_implies, implies_true, if_true, if_false, ite_true, ite_false, Bool.not_eq_true, Bool.not_eq_false, Bool.true_eq_false, Bool.false_eq_true, false_and, and_false, or_true, true_or, false_or, or_false]
            exact g
        · rw [if_neg a2] at em
          by_cases d : x ≤ 9
          · have g := yes true (fun _ => by rw [em, decide_eq_true ⟨c, d⟩]) rfl
            simp (disch := first | omega | assumption) only [n_lit, n_gLt, n_gLe, n_gEq, n_gEq2, n_gLe2, n_gLt2, n_m1, n_add, n_mul, n_lt, n_le, n_eq, n_cl, n_in, n_rem, n_mlt, n_mle, n_ltm, n_lem, n_eqm, n_meq, n_bit, n_shl, n_b0, n_b1, n_sub, n_inT, nT, nF, lT, lF, eT, eF, not_false_eq_true, not_true_eq_false, sI_at, sI_c, sI_j, aI_at, aI_c, sL_at, sL_c, sL_j, true_and, and_true, not_true_eq_false, not_false_eq_true, forall_const, true_implies, false_implies, implies_true, if_true, if_false, ite_true, ite_false, Bool.not_eq_true, Bool.not_eq_false, Bool.true_eq_false, Bool.false_eq_true, false_and, and_false, or_true, true_or, false_or, or_false]
            exact g
          · have g := nay false (fun _ => by rw [em, decide_eq_false (by omega)]) rfl
            simp (disch := first | omega | assumption) only [n_lit, n_gLt, n_gLe, n_gEq, n_gEq2, n_gLe2, n_gLt2, n_m1, n_add, n_mul, n_lt, n_le, n_eq, n_cl, n_in, n_rem, n_mlt, n_mle, n_ltm, n_lem, n_eqm, n_meq, n_bit, n_shl, n_b0, n_b1, n_sub, n_inT, nT, nF, lT, lF, eT, eF, not_false_eq_true, not_true_eq_false, sI_at, sI_c, sI_j, aI_at, aI_c, sL_at, sL_c, sL_j, true_and, and_true, not_true_eq_false, not_false_eq_true, forall_const, true_implies, false_implies, implies_true, if_true, if_false, ite_true, ite_false, Bool.not_eq_true, Bool.not_eq_false, Bool.true_eq_false, Bool.false_eq_true, false_and, and_false, or_true, true_or, false_or, or_false]
            exact g
      · have g := nay false (fun _ => by rw [em, decide_eq_false (by omega)]) rfl
        simp (disch := first | omega | assumption) only [n_lit, n_gLt, n_gLe, n_gEq, n_gEq2, n_gLe2, n_gLt2, n_m1, n_add, n_mul, n_lt, n_le, n_eq, n_cl, n_in, n_rem, n_mlt, n_mle, n_ltm, n_lem, n_eqm, n_meq, n_bit, n_shl, n_b0, n_b1, n_sub, n_inT, nT, nF, lT, lF, eT, eF, not_false_eq_true, not_true_eq_false, sI_at, sI_c, sI_j, aI_at, aI_c, sL_at, sL_c, sL_j, true_and, and_true, not_true_eq_false, not_false_eq_true, forall_const, true_implies, false_implies, implies_true, if_true, if_false, ite_true, ite_false, Bool.not_eq_true, Bool.not_eq_false, Bool.true_eq_false, Bool.false_eq_true, false_and, and_false, or_true, true_or, false_or, or_false]
        exact g
    · have em : mayW 9 a x S.nb = decide (x ≤ 3) := em
      by_cases d : x ≤ 3
      · have g := yes true (fun _ => by rw [em, decide_eq_true d]) rfl
        simp (disch := first | omega | assumption) only [n_lit, n_gLt, n_gLe, n_gEq, n_gEq2, n_gLe2, n_gLt2, n_m1, n_add, n_mul, n_lt, n_le, n_eq, n_cl, n_in, n_rem, n_mlt, n_mle, n_ltm, n_lem, n_eqm, n_meq, n_bit, n_shl, n_b0, n_b1, n_sub, n_inT, nT, nF, lT, lF, eT, eF, not_false_eq_true, not_true_eq_false, sI_at, sI_c, sI_j, aI_at, aI_c, sL_at, sL_c, sL_j, true_and, and_true, not_true_eq_false, not_false_eq_true, forall_const, true_implies, false_implies, implies_true, if_true, if_false, ite_true, ite_false, Bool.not_eq_true, Bool.not_eq_false, Bool.true_eq_false, Bool.false_eq_true, false_and, and_false, or_true, true_or, false_or, or_false]
        exact g
      · have g := nay false (fun _ => by rw [em, decide_eq_false (by omega)]) rfl
        simp (disch := first | omega | assumption) only [n_lit, n_gLt, n_gLe, n_gEq, n_gEq2, n_gLe2, n_gLt2, n_m1, n_add, n_mul, n_lt, n_le, n_eq, n_cl, n_in, n_rem, n_mlt, n_mle, n_ltm, n_lem, n_eqm, n_meq, n_bit, n_shl, n_b0, n_b1, n_sub, n_inT, nT, nF, lT, lF, eT, eF, not_false_eq_true, not_true_eq_false, sI_at, sI_c, sI_j, aI_at, aI_c, sL_at, sL_c, sL_j, true_and, and_true, not_true_eq_false, not_false_eq_true, forall_const, true_implies, false_implies, implies_true, if_true, if_false, ite_true, ite_false, Bool.not_eq_true, Bool.not_eq_false, Bool.true_eq_false, Bool.false_eq_true, false_and, and_false, or_true, true_or, false_or, or_false]
        exact g
    · have em : mayW 10 a x S.nb = decide (x ≤ 30) := em
      by_cases d : x ≤ 30
      · have g := yes true (fun _ => by rw [em, decide_eq_true d]) rfl
        simp (disch := first | omega | assumption) only [n_lit, n_gLt, n_gLe, n_gEq, n_gEq2, n_gLe2, n_gLt2, n_m1, n_add, n_mul, n_lt, n_le, n_eq, n_cl, n_in, n_rem, n_mlt, n_mle, n_ltm, n_lem, n_eqm, n_meq, n_bit, n_shl, n_b0, n_b1, n_sub, n_inT, nT, nF, lT, lF, eT, eF, not_false_eq_true, not_true_eq_false, sI_at, sI_c, sI_j, aI_at, aI_c, sL_at, sL_c, sL_j, true_and, and_true, not_true_eq_false, not_false_eq_true, forall_const, true_implies, false_implies, implies_true, if_true, if_false, ite_true, ite_false, Bool.not_eq_true, Bool.not_eq_false, Bool.true_eq_false, Bool.false_eq_true, false_and, and_false, or_true, true_or, false_or, or_false]
        exact g
      · have g := nay false (fun _ => by rw [em, decide_eq_false (by omega)]) rfl
        simp (disch := first | omega | assumption) only [n_lit, n_gLt, n_gLe, n_gEq, n_gEq2, n_gLe2, n_gLt2, n_m1, n_add, n_mul, n_lt, n_le, n_eq, n_cl, n_in, n_rem, n_mlt, n_mle, n_ltm, n_lem, n_eqm, n_meq, n_bit, n_shl, n_b0, n_b1, n_sub, n_inT, nT, nF, lT, lF, eT, eF, not_false_eq_true, not_true_eq_false, sI_at, sI_c, sI_j, aI_at, aI_c, sL_at, sL_c, sL_j, true_and, and_true, not_true_eq_false, not_false_eq_true, forall_const, true_implies, false_implies, implies_true, if_true, if_false, ite_true, ite_false, Bool.not_eq_true, Bool.not_eq_false, Bool.true_eq_false, Bool.false_eq_true, false_and, and_false, or_true, true_or, false_or, or_false]
        exact g
    · have em : mayW 11 a x S.nb = decide (a = 0 ∨ x < 16) := em
      by_cases a0 : a = 0
      · have g := yes true (fun _ => by rw [em, decide_eq_true (Or.inl a0)]) rfl
        subst a0
        simp (disch := first | omega | assumption) only [n_lit, n_gLt, n_gLe, n_gEq, n_gEq2, n_gLe2, n_gLt2, n_m1, n_add, n_mul, n_lt, n_le, n_eq, n_cl, n_in, n_rem, n_mlt, n_mle, n_ltm, n_lem, n_eqm, n_meq, n_bit, n_shl, n_b0, n_b1, n_sub, n_inT, nT, nF, lT, lF, eT, eF, not_false_eq_true, not_true_eq_false, sI_at, sI_c, sI_j, aI_at, aI_c, sL_at, sL_c, sL_j, true_and, and_true, not_true_eq_false, not_false_eq_true, forall_const, true_implies, false_implies, implies_true, if_true, if_false, ite_true, ite_false, Bool.not_eq_true, Bool.not_eq_false, Bool.true_eq_false, Bool.false_eq_true, false_and, and_false, or_true, true_or, false_or, or_false]
        exact g
      · by_cases d : x < 16
        · have g := yes true (fun _ => by rw [em, decide_eq_true (Or.inr d)]) rfl
          simp (disch := first | omega | assumption) only [n_lit, n_gLt, n_gLe, n_gEq, n_gEq2, n_gLe2, n_gLt2, n_m1, n_add, n_mul, n_lt, n_le, n_eq, n_cl, n_in, n_rem, n_mlt, n_mle, n_ltm, n_lem, n_eqm, n_meq, n_bit, n_shl, n_b0, n_b1, n_sub, n_inT, nT, nF, lT, lF, eT, eF, not_false_eq_true, not_true_eq_false, sI_at, sI_c, sI_j, aI_at, aI_c, sL_at, sL_c, sL_j, true_and, and_true, not_true_eq_false, not_false_eq_true, forall_const, true_implies, false_implies, implies_true, if_true, if_false, ite_true, ite_false, Bool.not_eq_true, Bool.not_eq_false, Bool.true_eq_false, Bool.false_eq_true, false_and, and_false, or_true, true_or, false_or, or_false]
          exact g
        · have g := nay false (fun _ => by rw [em, decide_eq_false (by omega)]) rfl
          simp (disch := first | omega | assumption) only [n_lit, n_gLt, n_gLe, n_gEq, n_gEq2, n_gLe2, n_gLt2, n_m1, n_add, n_mul, n_lt, n_le, n_eq, n_cl, n_in, n_rem, n_mlt, n_mle, n_ltm, n_lem, n_eqm, n_meq, n_bit, n_shl, n_b0, n_b1, n_sub, n_inT, nT, nF, lT, lF, eT, eF, not_false_eq_true, not_true_eq_false, sI_at, sI_c, sI_j, aI_at, aI_c, sL_at, sL_c, sL_j, true_and, and_true, not_true_eq_false, not_false_eq_true, forall_const, true_implies, false_implies, implies_true, if_true, if_false, ite_true, ite_false, Bool.not_eq_true, Bool.not_eq_false, Bool.true_eq_false, Bool.false_eq_true, false_and, and_false, or_true, true_or, false_or, or_false]
          exact g
    · have em : mayW 12 a x S.nb = decide (a = 0 ∨ x < 16) := em
      by_cases a0 : a = 0
      · have g := yes true (fun _ => by rw [em, decide_eq_true (Or.inl a0)]) rfl
        subst a0
        simp (disch := first | omega | assumption) only [n_lit, n_gLt, n_gLe, n_gEq, n_gEq2, n_gLe2, n_gLt2, n_m1, n_add, n_mul, n_lt, n_le, n_eq, n_cl, n_in, n_rem, n_mlt, n_mle, n_ltm, n_lem, n_eqm, n_meq, n_bit, n_shl, n_b0, n_b1, n_sub, n_inT, nT, nF, lT, lF, eT, eF, not_false_eq_true, not_true_eq_false, sI_at, sI_c, sI_j, aI_at, aI_c, sL_at, sL_c, sL_j, true_and, and_true, not_true_eq_false, not_false_eq_true, forall_const, true_implies, false_implies, implies_true, if_true, if_false, ite_true, ite_false, Bool.not_eq_true, Bool.not_eq_false, Bool.true_eq_false, Bool.false_eq_true, false_and, and_false, or_true, true_or, false_or, or_false]
        exact g
      · by_cases d : x < 16
        · have g := yes true (fun _ => by rw [em, decide_eq_true (Or.inr d)]) rfl
          simp (disch := first | omega | assumption) only [n_lit, n_gLt, n_gLe, n_gEq, n_gEq2, n_gLe2, n_gLt2, n_m1, n_add, n_mul, n_lt, n_le, n_eq, n_cl, n_in, n_rem, n_mlt, n_mle, n_ltm, n_lem, n_eqm, n_meq, n_bit, n_shl, n_b0, n_b1, n_sub, n_inT, nT, nF, lT, lF, eT, eF, not_false_eq_true, not_true_eq_false, sI_at, sI_c, sI_j, aI_at, aI_c, sL_at, sL_c, sL_j, true_and, and_true, not_true_eq_false, not_false_eq_true, forall_const, true_implies, false_implies, implies_true, if_true, if_false, ite_true, ite_false, Bool.not_eq_true, Bool.not_eq_false, Bool.true_eq_false, Bool.false_eq_true, false_and, and_false, or_true, true_or, false_or, or_false]
          exact g
        · have g := nay false (fun _ => by rw [em, decide_eq_false (by omega)]) rfl
          simp (disch := first | omega | assumption) only [n_lit, n_gLt, n_gLe, n_gEq, n_gEq2, n_gLe2, n_gLt2, n_m1, n_add, n_mul, n_lt, n_le, n_eq, n_cl, n_in, n_rem, n_mlt, n_mle, n_ltm, n_lem, n_eqm, n_meq, n_bit, n_shl, n_b0, n_b1, n_sub, n_inT, nT, nF, lT, lF, eT, eF, not_false_eq_true, not_true_eq_false, sI_at, sI_c, sI_j, aI_at, aI_c, sL_at, sL_c, sL_j, true_and, and_true, not_true_eq_false, not_false_eq_true, forall_const, true_implies, false_implies, implies_true, if_true, if_false, ite_true, ite_false, Bool.not_eq_true, Bool.not_eq_false, Bool.true_eq_false, Bool.false_eq_true, false_and, and_false, or_true, true_or, false_or, or_false]
          exact g
    · have em : mayW 13 a x S.nb = if a = 0 then decide (x < 40) else if a = 1 then true else decide (S.nb 1 ≤ x) := em
      by_cases a0 : a = 0
      · rw [if_pos a0] at em
        subst a0
        by_cases d : x < 40
        · have g := yes true (fun _ => by rw [em, decide_eq_true d]) rfl
          simp (disch := first | omega | assumption) only [n_lit, n_gLt, n_gLe, n_gEq, n_gEq2, n_gLe2, n_gLt2, n_m1, n_add, n_mul, n_lt, n_le, n_eq, n_cl, n_in, n_rem, n_mlt, n_mle, n_ltm, n_lem, n_eqm, n_meq, n_bit, n_shl, n_b0, n_b1, n_sub, n_inT, nT, nF, lT, lF, eT, eF, not_false_eq_true, not_true_eq_false, sI_at, sI_c, sI_j, aI_at, aI_c, sL_at, sL_c, sL_j, true_and, and_true, not_true_eq_false, not_false_eq_true, forall_const, true_implies, false_implies, implies_true, if_true, if_false, ite_true, ite_false, Bool.not_eq_true, Bool.not_eq_false, Bool.true_eq_false, Bool.false_eq_true, false_and, and_false, or_true, true_or, false_or, or_false]
          exact g
        · have g := nay false (fun _ => by rw [em, decide_eq_false d]) rfl
          simp (disch := first | omega | assumption) only [n_lit, n_gLt, n_gLe, n_gEq, n_gEq2, n_gLe2, n_gLt2, n_m1, n_add, n_mul, n_lt, n_le, n_eq, n_cl, n_in, n_rem, n_mlt, n_mle, n_ltm, n_lem, n_eqm, n_meq, n_bit, n_shl, n_b0, n_b1, n_sub, n_inT, nT, nF, lT, lF, eT, eF, not_false_eq_true, not_true_eq_false, sI_at, sI_c, sI_j, aI_at, aI_c, sL_at, sL_c, sL_j, true_and, and_true, not_true_eq_false, not_false_eq_true, forall_const, true_implies, false_implies, implies_true, if_true, if_false, ite_true, ite_false, Bool.not_eq_true, Bool.not_eq_false, Bool.true_eq_false, Bool.false_eq_true, false_and, and_false, or_true, true_or, false_or, or_false]
          exact g
      · rw [if_neg a0] at em
        by_cases a1 : a = 1
        · rw [if_pos a1] at em
          have g := yes true (fun _ => em.symm) rfl
          subst a1
          simp (disch := first | omega | assumption) only [n_lit, n_gLt, n_gLe, n_gEq, n_gEq2, n_gLe2, n_gLt2, n_m1, n_add, n_mul, n_lt, n_le, n_eq, n_cl, n_in, n_rem, n_mlt, n_mle, n_ltm, n_lem, n_eqm, n_meq, n_bit, n_shl, n_b0, n_b1, n_sub, n_inT, nT, nF, lT, lF, eT, eF, not_false_eq_true, not_true_eq_false, sI_at, sI_c, sI_j, aI_at, aI_c, sL_at, sL_c, sL_j, true_and, and_true, not_true_eq_false, not_false_eq_true, forall_const, true_implies, false_implies, implies_true, if_true, if_false, ite_true, ite_false, Bool.not_eq_true, Bool.not_eq_false, Bool.true_eq_false, Bool.false_eq_true, false_and, and_false, or_true, true_or, false_or, or_false]
          exact g
        · rw [if_neg a1] at em
          have key : (nI x < I 152 1 → K (nI 0) b I L) ∧ (¬ nI x < I 152 1 → K (nI 1) b I L) := by
            refine ⟨fun z => nay (!decide (nI x < I 152 1)) (fun h0 => ?_) ?_, fun z => yes (!decide (nI x < I 152 1)) (fun h0 => ?_) ?_⟩
            · have e1 := (C.2 h0).2.2.2 1 (by omega) (by omega)
              have b1 := ((N h0).2 1 (by omega) (by omega)).1
              rw [em, e1]
              by_cases c : x < S.nb 1
              · rw [show decide (nI x < nI (S.nb 1)) = true from decide_eq_true (by rw [n_lt (by omega) (by omega)]; exact c), show decide (S.nb 1 ≤ x) = false from decide_eq_false (by omega)]
                rfl
              · rw [show decide (nI x < nI (S.nb 1)) = false from decide_eq_false (by rw [n_lt (by omega) (by omega)]; exact c), show decide (S.nb 1 ≤ x) = true from decide_eq_true (by omega)]
                rfl
            · rw [decide_eq_true z]
              rfl
            · have e1 := (C.2 h0).2.2.2 1 (by omega) (by omega)
              have b1 := ((N h0).2 1 (by omega) (by omega)).1
              rw [em, e1]
              by_cases c : x < S.nb 1
              · rw [show decide (nI x < nI (S.nb 1)) = true from decide_eq_true (by rw [n_lt (by omega) (by omega)]; exact c), show decide (S.nb 1 ≤ x) = false from decide_eq_false (by omega)]
                rfl
              · rw [show decide (nI x < nI (S.nb 1)) = false from decide_eq_false (by rw [n_lt (by omega) (by omega)]; exact c), show decide (S.nb 1 ≤ x) = true from decide_eq_true (by omega)]
                rfl
            · rw [decide_eq_false z]
              rfl
          simp (disch := first | omega | assumption) only [n_lit, n_gLt, n_gLe, n_gEq, n_gEq2, n_gLe2, n_gLt2, n_m1, n_add, n_mul, n_lt, n_le, n_eq, n_cl, n_in, n_rem, n_mlt, n_mle, n_ltm, n_lem, n_eqm, n_meq, n_bit, n_shl, n_b0, n_b1, n_sub, n_inT, nT, nF, lT, lF, eT, eF, not_false_eq_true, not_true_eq_false, sI_at, sI_c, sI_j, aI_at, aI_c, sL_at, sL_c, sL_j, true_and, and_true, not_true_eq_false, not_false_eq_true, forall_const, true_implies, false_implies, implies_true, if_true, if_false, ite_true, ite_false, Bool.not_eq_true, Bool.not_eq_false, Bool.true_eq_false, Bool.false_eq_true, false_and, and_false, or_true, true_or, false_or, or_false]
          exact key
