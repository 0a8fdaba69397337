/-! A VILLAGE LIVES -/
theorem day_of_bring {s r d : Nat} {I I' : MI} (hr : isR s r) (h1 : ∀ a, a ≠ r + 4 → I' a = I a) (h2 : ∀ j, j < d * 16 ∨ d * 16 + 16 ≤ j → I' (r + 4) j = I (r + 4) j) : dayI d I I' := by
  have hrr : r = 166 ∨ r = 172 := by rcases hr with ⟨_, h⟩ | ⟨_, h⟩ <;> omega
  refine ⟨fun a ha => h1 a (by omega), fun a j ha hj => by rw [h1 a (by omega)], fun a j ha hj => ?_⟩
  by_cases e : a = r + 4
  · subst e; exact h2 j hj
  · rw [h1 a e]
theorem day_of_hear {d i : Nat} {I I' : MI} (hi : i < 16) (h1 : ∀ a, a ≠ 167 → a ≠ 173 → a ≠ 178 → I' a = I a) (h2 : ∀ a j, a = 167 ∨ a = 173 → j ≠ d → I' a j = I a j) (h3 : ∀ j, j ≠ d * 16 + i → I' 178 j = I 178 j) : dayI d I I' := by
  refine ⟨fun a ha => h1 a (by omega) (by omega) (by omega), fun a j ha hj => ?_, fun a j ha hj => ?_⟩
  · by_cases e : a = 167 ∨ a = 173
    · exact h2 a j e hj
    · rw [h1 a (by omega) (by omega) (by omega)]
  · by_cases e : a = 178
    · subst e; exact h3 j (by omega)
    · rw [h1 a (by omega) (by omega) e]
theorem day_of_say {w : Wd} {s d r : Nat} {I I' : MI} {L L' : ML} (hr : isR s r) (h : sayQ w s d r I I' L L') : dayI d I I' ∧ dayL d L L' := by
  have hrr : r = 166 ∨ r = 172 := by rcases hr with ⟨_, h⟩ | ⟨_, h⟩ <;> omega
  obtain ⟨h1, h2, h3, h4, h5, -⟩ := h
  refine ⟨⟨fun a ha => h1 a (by omega) (by omega), fun a j ha hj => ?_, fun a j ha hj => ?_⟩, fun a a1 a2 a3 => h4 a (by omega), fun a j hj => ?_⟩
  · by_cases e : a = r + 2
    · subst e; exact h2 j hj
    · rw [h1 a e (by omega)]
  · by_cases e : a = r + 5
    · subst e; exact h3 j hj
    · rw [h1 a (by omega) e]
  · by_cases e : a = r + 3
    · subst e; exact h5 j hj
    · rw [h4 a e]
theorem WL.day {w : Wd} {d : Nat} {I I' : MI} {L L' : ML} (h : WL w I L) (hI : dayI d I I') (hL : dayL d L L') : WL w I' L' := h.fr (fun a c1 c2 => hI.1 a (by omega)) (fun a ha => hL.1 a (by omega) (by omega) (by omega))
/-- a day's row, as it stands when all is said -/
theorem row_made {w : Wd} {d : Nat} {I4 I5 I6 : MI} {L L5 L6 : ML} (hn : w.v.n ≤ 16) (ca0 : ∀ p, p < w.v.n → I4 170 (d * 16 + p) = nI (camS w d (stp w d) 0 p)) (ca1 : ∀ p, p < w.v.n → I4 176 (d * 16 + p) = nI (camS w d (stp w d) 1 p)) (H : hrdP w d w.v.n I4) (q0 : sayQ w 0 d 166 I4 I5 L L5) (q1 : sayQ w 1 d 172 I5 I6 L5 L6) : rowC w d (sI I6 165 6 (nI d)) (sL L6 179 d (prC I6 d 16)) := by
  obtain ⟨a1, a2, a3, a4, a5, a6, a7, a8⟩ := q0
  obtain ⟨b1, b2, b3, b4, b5, b6, b7, b8⟩ := q1
  obtain ⟨h1, h2, h3⟩ := H
  have e : ∀ a, a ≠ 165 → sI I6 165 6 (nI d) a = I6 a := fun a ha => sI_c ha
  have f : ∀ a, a ≠ 168 → a ≠ 171 → a ≠ 174 → a ≠ 177 → I6 a = I4 a := fun a x1 x2 x3 x4 => (b1 a x3 x4).trans (a1 a x1 x2)
  refine ⟨⟨fun p hp => ?_, fun p hp => ?_, fun k hk => ?_, fun p hp => ?_, fun p hp => ?_⟩, ⟨fun p hp => ?_, fun p hp => ?_, fun k hk => ?_, fun p hp => ?_, fun p hp => ?_⟩, fun p hp => ?_, ?_⟩
  · rw [e _ (by decide), f _ (by decide) (by decide) (by decide) (by decide), h1 p hp, stt_ha]
    by_cases q : p < w.v.n
    · rw [if_pos q]
    · rw [decide_eq_false q, Bool.false_and, Bool.false_and]
  · rw [e _ (by decide), b1 _ (by decide) (by decide)]; exact a6 p hp
  · rw [sL_c (by decide), b4 _ (by decide)]; exact a8 k hk
  · rw [e _ (by decide), f _ (by decide) (by decide) (by decide) (by decide), stt_ca]; exact ca0 p hp
  · rw [e _ (by decide), b1 _ (by decide) (by decide)]; exact a7 p hp
  · rw [e _ (by decide), f _ (by decide) (by decide) (by decide) (by decide), h2 p hp, stt_ha]
    by_cases q : p < w.v.n
    · rw [if_pos q]
    · rw [decide_eq_false q, Bool.false_and, Bool.false_and]
  · rw [e _ (by decide)]; exact b6 p hp
  · rw [sL_c (by decide)]; exact b8 k hk
  · rw [e _ (by decide), f _ (by decide) (by decide) (by decide) (by decide), stt_ca]; exact ca1 p hp
  · rw [e _ (by decide)]; exact b7 p hp
  · rw [e _ (by decide), f _ (by decide) (by decide) (by decide) (by decide), h3 p hp, stt_su]
    by_cases q : p < w.v.n
    · rw [if_pos q, if_pos q, if_pos q]
    · rw [if_neg q, if_neg q]
  · rw [sL_at]
    exact (prC_cong (Nat.le_refl _) (by rw [e _ (by decide)]) (by rw [e _ (by decide)]) (fun p hp => by rw [e _ (by decide), e _ (by decide), e _ (by decide)]; exact ⟨rfl, rfl, rfl⟩)).symm
theorem c_live {w : Wd} {s0 U : Nat} {a2 till : Int32} (hs : s0 ≤ U) (hU : U ≤ 201) (h2 : (U = 0 ∧ a2 = nM) ∨ (0 < U ∧ a2 = nI (U - 1))) (ht : till = nI 0 ∨ till = nI 1) {b : Bool} {I : MI} {L : ML} {K : Bool → MI → ML → Prop} (h : WL w I L) (hrow : ∀ e, e < s0 → rowC w e I L) (hla : s0 ≤ w.la + 1) (hK : ∀ N I' L', (∀ a, a < 165 ∨ 181 ≤ a → I' a = I a) → (∀ a, a ≠ 169 → a ≠ 175 → a ≠ 179 → L' a = L a) → s0 ≤ N → N ≤ U → (∀ e, e < N → rowC w e I' L') → rgI (rgU w N) I' → (s0 < N → I' 165 6 = nI (N - 1)) → (till = nI 0 → N = U) → (till = nI 1 → (rgU w N = none → N = U) ∧ ∀ r, rgU w N = some r → N = r.1 + r.2 + 1) → K b I' L') : CV m_Run_live [vr 14 153, vi (nI s0), vi a2, vi till] b I L K := by
  have ok := h.vil.2
  have hn := ok.1.2
  have hlaw := h.la
  -- day by day
  have loop : ∀ n d, d + n = U → s0 ≤ d → ∀ (I1 : MI) (L1 : ML), (∀ a, a < 165 ∨ 181 ≤ a → I1 a = I a) → (∀ a, a ≠ 169 → a ≠ 175 → a ≠ 179 → L1 a = L a) → (∀ e, e < d → rowC w e I1 L1) → rgI (rgU w d) I1 → (s0 < d → I1 165 6 = nI (d - 1)) → (till = nI 1 → rgU w d = none) → SW m_Run_live 28 [vr 14 153, un, vi a2, vi till, vi (nI w.la), vi (nI d), un] [] b I1 L1 (kV K) := by
    intro n
    induction n with
    | zero =>
      intro d hd hsd I1 L1 f1 f2 rows ring h6 hnr
      obtain rfl : d = U := by omega
      have fin := hK d I1 L1 f1 f2 hsd (Nat.le_refl _) rows ring h6 (fun _ => rfl) (fun q => ⟨fun _ => rfl, fun r hr => by rw [hnr q] at hr; cases hr⟩)
      refine v_Run_live_28 ?_
      rcases h2 with ⟨rfl, rfl⟩ | ⟨c, rfl⟩
      · simp (disch := first | omega | assumption) only [n_lit, n_gLt, n_gLe, n_gEq, n_gEq2, n_gLe2, n_gLt2, n_m1, n_add, n_mul, n_lt, n_le, n_eq, n_cl, n_in, n_rem, n_mlt, n_mle, n_ltm, n_lem, n_eqm, n_meq, n_bit, n_shl, n_b0, n_b1, n_sub, n_inT, nT, nF, lT, lF, eT, eF, not_false_eq_true, not_true_eq_false, sI_at, sI_c, sI_j, aI_at, aI_c, sL_at, sL_c, sL_j, true_and, and_true, not_true_eq_false, not_false_eq_true, forall_const, true_implies, false_implies, implies_true, if_true, if_false, ite_true, ite_false, Bool.not_eq_true, Bool.not_eq_false, Bool.true_eq_false, Bool.false_eq_true, false_and, and_false, or_true, true_or, false_or, or_false]
        exact fin
      · simp (disch := first | omega | assumption) only [n_lit, n_gLt, n_gLe, n_gEq, n_gEq2, n_gLe2, n_gLt2, n_m1, n_add, n_mul, n_lt, n_le, n_eq, n_cl, n_in, n_rem, n_mlt, n_mle, n_ltm, n_lem, n_eqm, n_meq, n_bit, n_shl, n_b0, n_b1, n_sub, n_inT, nT, nF, lT, lF, eT, eF, not_false_eq_true, not_true_eq_false, sI_at, sI_c, sI_j, aI_at, aI_c, sL_at, sL_c, sL_j, true_and, and_true, not_true_eq_false, not_false_eq_true, forall_const, true_implies, false_implies, implies_true, if_true, if_false, ite_true, ite_false, Bool.not_eq_true, Bool.not_eq_false, Bool.true_eq_false, Bool.false_eq_true, false_and, and_false, or_true, true_or, false_or, or_false]
        exact fin
    | succ n ih =>
      intro d hd hsd I1 L1 f1 f2 rows ring h6 hnr
      have hd2 : d ≤ 200 := by omega
      have W1 : WL w I1 L1 := h.fr (fun a c1 c2 => f1 a (by omega)) (fun a ha => f2 a (by omega) (by omega) (by omega))
      obtain ⟨c2, rfl⟩ : 0 < U ∧ a2 = nI (U - 1) := by
        rcases h2 with ⟨c, _⟩ | c
        · omega
        · exact c
      have htB : till = nI 0 ∨ ¬ till = nI 0 := by
        rcases ht with q | q
        · exact Or.inl q
        · exact Or.inr (by rw [q]; decide)
      -- the persons hear, all say, the day closes, the ring is looked for
      have body : ∀ m i, i + m = w.v.n → ∀ I4 : MI, dayI d I1 I4 → (∀ p, p < w.v.n → I4 170 (d * 16 + p) = nI (camS w d (stp w d) 0 p)) → (∀ p, p < w.v.n → I4 176 (d * 16 + p) = nI (camS w d (stp w d) 1 p)) → (∀ p, p < 16 → I4 171 (d * 16 + p) = nI (if p < w.v.n then (stp w d).cn 0 p else 0)) → (∀ p, p < 16 → I4 177 (d * 16 + p) = nI (if p < w.v.n then (stp w d).cn 1 p else 0)) → hrdP w d i I4 → SW m_Run_live 92 [vr 14 153, un, vi (nI (U - 1)), vi till, vi (nI w.la), vi (nI d), vi (nI i)] [] b I4 L1 (kV K) := by
        intro m
        induction m with
        | zero =>
          intro i hi I4 D4 ca0 ca1 cn0 cn1 H
          obtain rfl : i = w.v.n := by omega
          have W4 : WL w I4 L1 := W1.day D4 dayL.rfl'
          have e1 : I4 154 0 = nI w.v.n := W4.vil.1.1.1
          refine v_Run_live_92 ?_
          simp (disch := first | omega | assumption) only [n_lit, n_gLt, n_gLe, n_gEq, n_gEq2, n_gLe2, n_gLt2, n_m1, n_add, n_mul, n_lt, n_le, n_eq, n_cl, n_in, n_rem, n_mlt, n_mle, n_ltm, n_lem, n_eqm, n_meq, n_bit, n_shl, n_b0, n_b1, n_sub, n_inT, nT, nF, lT, lF, eT, eF, not_false_eq_true, not_true_eq_false, sI_at, sI_c, sI_j, aI_at, aI_c, sL_at, sL_c, sL_j, true_and, and_true, not_true_eq_false, not_false_eq_true, forall_const, true_implies, false_implies, implies_true, if_true, if_false, ite_true, ite_false, Bool.not_eq_true, Bool.not_eq_false, Bool.true_eq_false, Bool.false_eq_true, false_and, and_false, or_true, true_or, false_or, or_false, e1]
          refine c_say (s := 0) (Or.inl ⟨rfl, rfl⟩) hd2 W4 (fun p hp => ?_) cn0 (fun I5 L5 q0 => ?_)
          · have := H.1 p hp
            rw [show (166 + 1) = 167 from rfl, this]
            by_cases q : p < w.v.n
            · rw [if_pos q]
            · rw [decide_eq_false q, Bool.false_and, Bool.false_and]
          have D5 := day_of_say (Or.inl ⟨rfl, rfl⟩) q0
          have W5 : WL w I5 L5 := W4.day D5.1 D5.2
          refine c_say (s := 1) (Or.inr ⟨rfl, rfl⟩) hd2 W5 (fun p hp => ?_) (fun p hp => ?_) (fun I6 L6 q1 => ?_)
          · have := H.2.1 p hp
            rw [q0.1 _ (by decide) (by decide), show (172 + 1) = 173 from rfl, this]
            by_cases q : p < w.v.n
            · rw [if_pos q]
            · rw [decide_eq_false q, Bool.false_and, Bool.false_and]
          · rw [q0.1 _ (by decide) (by decide)]
            exact cn1 p hp
          have D6 := day_of_say (Or.inr ⟨rfl, rfl⟩) q1
          have rd := row_made hn ca0 ca1 H q0 q1
          have DI : dayI d I1 I6 := (D4.trans D5.1).trans D6.1
          have DL : dayL d L1 L6 := D5.2.trans D6.2
          refine c_close hd2 ?_
          have i165 : I6 165 = I1 165 := DI.1 165 (by decide)
          have rows7 : ∀ e, e < d + 1 → rowC w e (sI I6 165 6 (nI d)) (sL L6 179 d (prC I6 d 16)) := by
            intro e he
            by_cases c : e = d
            · subst c; exact rd
            · have := rowC_day DI (DL.trans ⟨fun a _ _ a3 => sL_c a3, fun a j hj => by
                by_cases c9 : a = 179
                · subst c9; exact sL_j hj
                · rw [sL_c c9]⟩ : dayL d L1 (sL L6 179 d (prC I6 d 16))) c hn (rows e (by omega))
              exact rowC_fr (fun a a1 _ => sI_c (by omega)) (fun _ _ => rfl) this
          have W7 : WL w (sI I6 165 6 (nI d)) (sL L6 179 d (prC I6 d 16)) := (W1.day DI DL).fr (fun a a1 a2 => sI_c (by omega)) (fun a ha => sL_c (by omega))
          have F7 : ∀ a, a < 165 ∨ 181 ≤ a → sI I6 165 6 (nI d) a = I a := fun a ha => by
            rw [sI_c (by omega), DI.1 a (by omega)]
            exact f1 a ha
          have G7 : ∀ a, a ≠ 169 → a ≠ 175 → a ≠ 179 → sL L6 179 d (prC I6 d 16) a = L a := fun a a1 a2 a3 => by
            rw [sL_c a3, DL.1 a a1 a2 a3]
            exact f2 a a1 a2 a3
          have r4 : sI I6 165 6 (nI d) 165 4 = I1 165 4 := by rw [sI_j (by decide), i165]
          have r5 : sI I6 165 6 (nI d) 165 5 = I1 165 5 := by rw [sI_j (by decide), i165]
          have r6 : sI I6 165 6 (nI d) 165 6 = nI d := sI_at _ _ _ _
          -- with what is known of the ring then
          have next : ∀ I8 : MI, (∀ a, a ≠ 165 → a ≠ 180 → I8 a = sI I6 165 6 (nI d) a) → I8 165 6 = nI d → rgI (rgU w (d + 1)) I8 → (till = nI 1 → rgU w (d + 1) = none) → SW m_Run_live 28 [vr 14 153, un, vi (nI (U - 1)), vi till, vi (nI w.la), vi (nI (d + 1)), un] [] b I8 (sL L6 179 d (prC I6 d 16)) (kV K) := fun I8 g1 g2 g3 g4 => ih (d + 1) (by omega) (by omega) I8 _ (fun a ha => by rw [g1 a (by omega) (by omega)]; exact F7 a ha) G7 (fun e he => rowC_fr (fun a a1 a2 => g1 a (by omega) (by omega)) (fun _ _ => rfl) (rows7 e he)) g3 (fun _ => g2) g4
          have stop : ∀ I8 : MI, (∀ a, a ≠ 165 → a ≠ 180 → I8 a = sI I6 165 6 (nI d) a) → I8 165 6 = nI d → rgI (rgU w (d + 1)) I8 → ¬ till = nI 0 → (∀ r, rgU w (d + 1) = some r → d + 1 = r.1 + r.2 + 1) → (rgU w (d + 1) = none → False) → K b I8 (sL L6 179 d (prC I6 d 16)) := fun I8 g1 g2 g3 g4 g5 g6 => hK (d + 1) I8 _ (fun a ha => by rw [g1 a (by omega) (by omega)]; exact F7 a ha) G7 (by omega) (by omega) (fun e he => rowC_fr (fun a a1 a2 => g1 a (by omega) (by omega)) (fun _ _ => rfl) (rows7 e he)) g3 (fun _ => g2) (fun q => absurd q g4) (fun _ => ⟨fun q => absurd q g6, g5⟩)
          cases hrg : rgU w d with
          | some r =>
            have hu : rgU w (d + 1) = some r := rgU_mono hrg 1
            have ht0 : till = nI 0 := by
              rcases ht with q | q
              · exact q
              · have := hnr q
                rw [hrg] at this
                cases this
            rw [hrg] at ring
            have rr := rgU_some (a := r.1) (l := r.2) hrg
            have hm : ¬ nI r.1 = nM := by rw [n_eqm (by omega)]; exact id
            have e4 : sI I6 165 6 (nI d) 165 4 = nI r.1 := r4.trans ring.1
            have e46 : I6 165 4 = nI r.1 := by rw [i165]; exact ring.1
            have go := next (sI I6 165 6 (nI d)) (fun _ _ _ => rfl) r6 (by rw [hu]; exact ⟨e4, r5.trans ring.2⟩) (fun q => by rw [ht0] at q; exact absurd q (by decide))
            subst ht0
            simp (disch := first | omega | assumption) only [n_lit, n_gLt, n_gLe, n_gEq, n_gEq2, n_gLe2, n_gLt2, n_m1, n_add, n_mul, n_lt, n_le, n_eq, n_cl, n_in, n_rem, n_mlt, n_mle, n_ltm, n_lem, n_eqm, n_meq, n_bit, n_shl, n_b0, n_b1, n_sub, n_inT, nT, nF, lT, lF, eT, eF, not_false_eq_true, not_true_eq_false, sI_at, sI_c, sI_j, aI_at, aI_c, sL_at, sL_c, sL_j, true_and, and_true, not_true_eq_false, not_false_eq_true, forall_const, true_implies, false_implies, implies_true, if_true, if_false, ite_true, ite_false, Bool.not_eq_true, Bool.not_eq_false, Bool.true_eq_false, Bool.false_eq_true, false_and, and_false, or_true, true_or, false_or, or_false, e46, hm]
            exact go
          | none =>
            rw [hrg] at ring
            have e4 : sI I6 165 6 (nI d) 165 4 = nM := r4.trans ring.1
            have e46 : I6 165 4 = nM := by rw [i165]; exact ring.1
            have hu : rgU w (d + 1) = rgO d (rgD w d) := rgU_next hrg
            simp (disch := first | omega | assumption) only [n_lit, n_gLt, n_gLe, n_gEq, n_gEq2, n_gLe2, n_gLt2, n_m1, n_add, n_mul, n_lt, n_le, n_eq, n_cl, n_in, n_rem, n_mlt, n_mle, n_ltm, n_lem, n_eqm, n_meq, n_bit, n_shl, n_b0, n_b1, n_sub, n_inT, nT, nF, lT, lF, eT, eF, not_false_eq_true, not_true_eq_false, sI_at, sI_c, sI_j, aI_at, aI_c, sL_at, sL_c, sL_j, true_and, and_true, not_true_eq_false, not_false_eq_true, forall_const, true_implies, false_implies, implies_true, if_true, if_false, ite_true, ite_false, Bool.not_eq_true, Bool.not_eq_false, Bool.true_eq_false, Bool.false_eq_true, false_and, and_false, or_true, true_or, false_or, or_false, e46]
            refine c_findRing hd2 W7 (fun e he => rows7 e (by omega)) ⟨e4, r5.trans ring.2⟩ (fun I8 g1 g2 g3 => ?_)
            rw [← hu] at g3
            have g6 : I8 165 6 = nI d := by rw [g2 6 (by decide) (by decide)]; exact r6
            rcases htB with q | q
            · have go := next I8 g1 g6 g3 (fun z => by rw [q] at z; exact absurd z (by decide))
              subst q
              simp (disch := first | omega | assumption) only [n_lit, n_gLt, n_gLe, n_gEq, n_gEq2, n_gLe2, n_gLt2, n_m1, n_add, n_mul, n_lt, n_le, n_eq, n_cl, n_in, n_rem, n_mlt, n_mle, n_ltm, n_lem, n_eqm, n_meq, n_bit, n_shl, n_b0, n_b1, n_sub, n_inT, nT, nF, lT, lF, eT, eF, not_false_eq_true, not_true_eq_false, sI_at, sI_c, sI_j, aI_at, aI_c, sL_at, sL_c, sL_j, true_and, and_true, not_true_eq_false, not_false_eq_true, forall_const, true_implies, false_implies, implies_true, if_true, if_false, ite_true, ite_false, Bool.not_eq_true, Bool.not_eq_false, Bool.true_eq_false, Bool.false_eq_true, false_and, and_false, or_true, true_or, false_or, or_false]
              exact go
            · have q1 : till = nI 1 := ht.elim (fun z => absurd z q) id
              cases hd9 : rgD w d with
              | none =>
                rw [hd9] at hu
                rw [hu] at g3
                have e8 : I8 165 4 = nM := g3.1
                have go := next I8 g1 g6 (by rw [hu]; exact g3) (fun _ => hu)
                subst q1
                simp (disch := first | omega | assumption) only [n_lit, n_gLt, n_gLe, n_gEq, n_gEq2, n_gLe2, n_gLt2, n_m1, n_add, n_mul, n_lt, n_le, n_eq, n_cl, n_in, n_rem, n_mlt, n_mle, n_ltm, n_lem, n_eqm, n_meq, n_bit, n_shl, n_b0, n_b1, n_sub, n_inT, nT, nF, lT, lF, eT, eF, not_false_eq_true, not_true_eq_false, sI_at, sI_c, sI_j, aI_at, aI_c, sL_at, sL_c, sL_j, true_and, and_true, not_true_eq_false, not_false_eq_true, forall_const, true_implies, false_implies, implies_true, if_true, if_false, ite_true, ite_false, Bool.not_eq_true, Bool.not_eq_false, Bool.true_eq_false, Bool.false_eq_true, false_and, and_false, or_true, true_or, false_or, or_false, e8]
                exact go
              | some a =>
                rw [hd9] at hu
                rw [hu] at g3
                obtain ⟨s1, s2, s3⟩ := rgD_some hd9
                have e8 : I8 165 4 = nI a := g3.1
                have hm : ¬ nI a = nM := by rw [n_eqm (by omega)]; exact id
                have go := stop I8 g1 g6 (by rw [hu]; exact g3) q (fun r hr => by
                  rw [hu] at hr
                  cases hr
                  show d + 1 = a + (d - a) + 1
                  omega) (fun z => by rw [hu] at z; cases z)
                subst q1
                simp (disch := first | omega | assumption) only [n_lit, n_gLt, n_gLe, n_gEq, n_gEq2, n_gLe2, n_gLt2, n_m1, n_add, n_mul, n_lt, n_le, n_eq, n_cl, n_in, n_rem, n_mlt, n_mle, n_ltm, n_lem, n_eqm, n_meq, n_bit, n_shl, n_b0, n_b1, n_sub, n_inT, nT, nF, lT, lF, eT, eF, not_false_eq_true, not_true_eq_false, sI_at, sI_c, sI_j, aI_at, aI_c, sL_at, sL_c, sL_j, true_and, and_true, not_true_eq_false, not_false_eq_true, forall_const, true_implies, false_implies, implies_true, if_true, if_false, ite_true, ite_false, Bool.not_eq_true, Bool.not_eq_false, Bool.true_eq_false, Bool.false_eq_true, false_and, and_false, or_true, true_or, false_or, or_false, e8, hm]
                exact go
        | succ m ihm =>
          intro i hi I4 D4 ca0 ca1 cn0 cn1 H
          have W4 : WL w I4 L1 := W1.day D4 dayL.rfl'
          have e1 : I4 154 0 = nI w.v.n := W4.vil.1.1.1
          refine v_Run_live_92 ?_
          simp (disch := first | omega | assumption) only [n_lit, n_gLt, n_gLe, n_gEq, n_gEq2, n_gLe2, n_gLt2, n_m1, n_add, n_mul, n_lt, n_le, n_eq, n_cl, n_in, n_rem, n_mlt, n_mle, n_ltm, n_lem, n_eqm, n_meq, n_bit, n_shl, n_b0, n_b1, n_sub, n_inT, nT, nF, lT, lF, eT, eF, not_false_eq_true, not_true_eq_false, sI_at, sI_c, sI_j, aI_at, aI_c, sL_at, sL_c, sL_j, true_and, and_true, not_true_eq_false, not_false_eq_true, forall_const, true_implies, false_implies, implies_true, if_true, if_false, ite_true, ite_false, Bool.not_eq_true, Bool.not_eq_false, Bool.true_eq_false, Bool.false_eq_true, false_and, and_false, or_true, true_or, false_or, or_false, e1]
          refine c_hear hd2 W4 (by omega) (ca0 i (by omega)) (ca1 i (by omega)) H (fun I5 g1 g2 g3 g4 => ?_)
          refine ihm (i + 1) (by omega) I5 (D4.trans (day_of_hear (by omega) g1 g2 g3)) (fun p hp => ?_) (fun p hp => ?_) (fun p hp => ?_) (fun p hp => ?_) g4
          · rw [g1 _ (by decide) (by decide) (by decide)]; exact ca0 p hp
          · rw [g1 _ (by decide) (by decide) (by decide)]; exact ca1 p hp
          · rw [g1 _ (by decide) (by decide) (by decide)]; exact cn0 p hp
          · rw [g1 _ (by decide) (by decide) (by decide)]; exact cn1 p hp
      refine v_Run_live_28 ?_
      simp (disch := first | omega | assumption) only [n_lit, n_gLt, n_gLe, n_gEq, n_gEq2, n_gLe2, n_gLt2, n_m1, n_add, n_mul, n_lt, n_le, n_eq, n_cl, n_in, n_rem, n_mlt, n_mle, n_ltm, n_lem, n_eqm, n_meq, n_bit, n_shl, n_b0, n_b1, n_sub, n_inT, nT, nF, lT, lF, eT, eF, not_false_eq_true, not_true_eq_false, sI_at, sI_c, sI_j, aI_at, aI_c, sL_at, sL_c, sL_j, true_and, and_true, not_true_eq_false, not_false_eq_true, forall_const, true_implies, false_implies, implies_true, if_true, if_false, ite_true, ite_false, Bool.not_eq_true, Bool.not_eq_false, Bool.true_eq_false, Bool.false_eq_true, false_and, and_false, or_true, true_or, false_or, or_false]
      refine c_Days_open (w := w) hd2 (fun e he => rows e (by omega)) (fun I2 D2 O2 => ?_)
      have W2 : WL w I2 L1 := W1.day D2 dayL.rfl'
      have rows2 : ∀ e, e < d → rowC w e I2 L1 := fun e he => rowC_day D2 dayL.rfl' (by omega) hn (rows e he)
      have after : ∀ I3, (∀ a, a ≠ 166 + 4 → I3 a = I2 a) → (∀ j, j < d * 16 ∨ d * 16 + 16 ≤ j → I3 (166 + 4) j = I2 (166 + 4) j) → (∀ p, p < w.v.n → I3 (166 + 4) (d * 16 + p) = nI (camS w d (stp w d) 0 p)) → ∀ o, ((o = nI 0 ∧ w.la < d) ∨ (o = nI 1 ∧ d ≤ w.la)) → CV m_Run_bring [vr 14 153, vi (nI d), vi (nI 1), vi o] b I3 L1 (fun b_3 I_3 L_3 => SW m_Run_live 92 [vr 14 153, un, vi (nI (U - 1)), vi till, vi (nI w.la), vi (nI d), vi (nI 0)] [] b_3 I_3 L_3 (kV K)) := by
        intro I3 g1 g2 g3 o ho
        have D3 := day_of_bring (d := d) (s := 0) (Or.inl ⟨rfl, rfl⟩) g1 g2
        refine c_bring (w := w) (s := 1) (Or.inr ⟨rfl, rfl⟩) hd2 (W2.day D3 dayL.rfl') (fun e he => rowC_day D3 dayL.rfl' (by omega) hn (rows2 e he)) ho (fun I4 k1 k2 k3 => ?_)
        have D4 := day_of_bring (d := d) (s := 1) (Or.inr ⟨rfl, rfl⟩) k1 k2
        obtain ⟨o1, o2, o3, o4, o5⟩ := O2
        have f : ∀ a, a ≠ 170 → a ≠ 176 → I4 a = I2 a := fun a x1 x2 => (k1 a x2).trans (g1 a x1)
        refine body w.v.n 0 (by omega) I4 ((D2.trans D3).trans D4) (fun p hp => ?_) k3 (fun p hp => ?_) (fun p hp => ?_) ⟨fun p hp => ?_, fun p hp => ?_, fun p hp => ?_⟩
        · rw [k1 170 (by decide)]; exact g3 p hp
        · rw [f _ (by decide) (by decide)]; exact o3 p hp
        · rw [f _ (by decide) (by decide)]; exact o4 p hp
        · rw [f _ (by decide) (by decide), if_neg (by omega)]; exact o1 p hp
        · rw [f _ (by decide) (by decide), if_neg (by omega)]; exact o2 p hp
        · rw [f _ (by decide) (by decide), o5 p hp]
          by_cases q : p < w.v.n
          · rw [if_pos q, if_pos q, if_neg (by omega)]
          · rw [if_neg q, if_neg q]
      by_cases c : w.la < d
      · simp (disch := first | omega | assumption) only [n_lit, n_gLt, n_gLe, n_gEq, n_gEq2, n_gLe2, n_gLt2, n_m1, n_add, n_mul, n_lt, n_le, n_eq, n_cl, n_in, n_rem, n_mlt, n_mle, n_ltm, n_lem, n_eqm, n_meq, n_bit, n_shl, n_b0, n_b1, n_sub, n_inT, nT, nF, lT, lF, eT, eF, not_false_eq_true, not_true_eq_false, sI_at, sI_c, sI_j, aI_at, aI_c, sL_at, sL_c, sL_j, true_and, and_true, not_true_eq_false, not_false_eq_true, forall_const, true_implies, false_implies, implies_true, if_true, if_false, ite_true, ite_false, Bool.not_eq_true, Bool.not_eq_false, Bool.true_eq_false, Bool.false_eq_true, false_and, and_false, or_true, true_or, false_or, or_false]
        exact c_bring (s := 0) (o := nI 0) (Or.inl ⟨rfl, rfl⟩) hd2 W2 rows2 (Or.inl ⟨rfl, c⟩) (fun I3 g1 g2 g3 => after I3 g1 g2 g3 (nI 0) (Or.inl ⟨rfl, c⟩))
      · simp (disch := first | omega | assumption) only [n_lit, n_gLt, n_gLe, n_gEq, n_gEq2, n_gLe2, n_gLt2, n_m1, n_add, n_mul, n_lt, n_le, n_eq, n_cl, n_in, n_rem, n_mlt, n_mle, n_ltm, n_lem, n_eqm, n_meq, n_bit, n_shl, n_b0, n_b1, n_sub, n_inT, nT, nF, lT, lF, eT, eF, not_false_eq_true, not_true_eq_false, sI_at, sI_c, sI_j, aI_at, aI_c, sL_at, sL_c, sL_j, true_and, and_true, not_true_eq_false, not_false_eq_true, forall_const, true_implies, false_implies, implies_true, if_true, if_false, ite_true, ite_false, Bool.not_eq_true, Bool.not_eq_false, Bool.true_eq_false, Bool.false_eq_true, false_and, and_false, or_true, true_or, false_or, or_false]
        exact c_bring (s := 0) (o := nI 1) (Or.inl ⟨rfl, rfl⟩) hd2 W2 rows2 (Or.inr ⟨rfl, by omega⟩) (fun I3 g1 g2 g3 => after I3 g1 g2 g3 (nI 1) (Or.inr ⟨rfl, by omega⟩))
  have h0 : rgU w s0 = none := rgU_early hla
  refine v_Run_live_0 (cw_lastDay (h.fr (fun a c1 c2 => by rw [sI_c (by omega), sI_c (by omega)]) (fun _ _ => rfl)) ?_)
  refine loop (U - s0) s0 (by omega) (Nat.le_refl _) _ L (fun a ha => by rw [sI_c (by omega), sI_c (by omega)]) (fun _ _ _ _ => rfl) (fun e he => rowC_fr (fun a a1 a2 => by rw [sI_c (by omega), sI_c (by omega)]) (fun _ _ => rfl) (hrow e he)) ?_ (fun q => by omega) (fun _ => h0)
  rw [h0]
  exact ⟨by rw [sI_j (by decide), sI_at]; rfl, sI_at _ _ _ _⟩
