/-! A RUN of the reference -/
/-- a day's row -/
def dayQ (w : Wd) (e : Nat) (I : MI) : Prop := ∀ p, p < w.v.n → I 190 (16 * e + p) = nI (hc ((stt w e).ha 0 p) ((stt w e).ha 1 p)) ∧ I 191 (16 * e + p) = nI (hrdS w e (stp w e) 0 p) ∧ I 192 (16 * e + p) = nI (hrdS w e (stp w e) 1 p) ∧ I 193 (16 * e + p) = zI ((stt w e).su p) ∧ I 194 (16 * e + p) = nI (hc ((stt w e).sa 0 p) ((stt w e).sa 1 p))
/-- what is known when so many days are lived -/
def dysP (w : Wd) (N : Nat) (I : MI) (L : ML) : Prop := cmP w N I ∧ (∀ s, s < 2 → ∀ p, p < 16 → I 197 (2 * p + s) = nI (if p < w.v.n then (stp w N).cn s p else 0)) ∧ (∀ s, s < 2 → ∀ p, p < w.v.n → I 198 (2 * p + s) = honI (hon w s p N) ∧ I 199 (2 * p + s) = hbyI w s p (hon w s p N)) ∧ (∀ e, e < N → dayQ w e I) ∧ ∀ e, e < N → lkP w e I L
def rgM (o : Option (Nat × Nat)) (I : MI) : Prop := match o with
  | none => I 186 39 = nM ∧ I 186 40 = nM
  | some r => I 186 39 = nI r.1 ∧ I 186 40 = nI r.2
/-- the cells that a run writes -/
def frM (I I' : MI) : Prop := (∀ a, a < 186 ∨ a = 187 ∨ a = 188 ∨ a = 189 ∨ 202 ≤ a → I' a = I a) ∧ ∀ j, j ≠ 39 → j ≠ 40 → I' 186 j = I 186 j
theorem frM.trans {I I' I'' : MI} (h : frM I I') (k : frM I' I'') : frM I I'' := ⟨fun a ha => (k.1 a ha).trans (h.1 a ha), fun j h1 h2 => (k.2 j h1 h2).trans (h.2 j h1 h2)⟩
theorem WM.frM {v : Vil} {t : Tel} {x : Wi} {o : Nat} {w : Wd} {I I' : MI} {L L' : ML} (h : WM v t x o w I L) (k : frM I I') (l : L' 186 = L 186) : WM v t x o w I' L' := h.fr (fun j hj => k.2 j (by omega) (by omega)) (k.1 187 (by omega)) l
theorem cm_oneDay {v : Vil} {t : Tel} {x : Wi} {o : Nat} {w : Wd} {d : Nat} {b : Bool} {I : MI} {L : ML} {K : Bool → MI → ML → Prop} (h : WM v t x o w I L) (hd : d ≤ 200) (D : dysP w d I L) (hK : ∀ I' L', frM I I' → I' 186 = I 186 → (∀ a, a ≠ 201 → L' a = L a) → dysP w (d + 1) I' L' → K b I' L') : CV m_M_oneDay [vr 22 186, vi (nI d)] b I L K := by
  have okw := h.1.2.1
  have hn := okw.1.2
  obtain ⟨D1, D2, D3, D4, D5⟩ := D
  have hpr : 0 < d → ∀ p, p < w.v.n → I 190 (16 * (d - 1) + p) = nI (hc ((stp w d).ha 0 p) ((stp w d).ha 1 p)) ∧ I 193 (16 * (d - 1) + p) = zI ((stp w d).su p) := by
    intro h0 p hp
    obtain ⟨q1, -, -, q4, -⟩ := D4 (d - 1) (by omega) p hp
    have e : stp w d = stt w (d - 1) := by
      obtain ⟨k, rfl⟩ : ∃ k, d = k + 1 := ⟨d - 1, by omega⟩
      rfl
    rw [e]
    exact ⟨q1, q4⟩
  refine v_M_oneDay_0 (cm_dayA h hd D1 hpr (fun I1 f1 f2 f3 f4 => ?_) w.v.n 0 (by omega) I (fun _ _ => rfl) (fun _ _ _ _ => rfl) (fun s hs p hp => by rw [if_neg (Nat.not_lt_zero p)]; exact D3 s hs p hp) (fun p hp => absurd hp (Nat.not_lt_zero _)))
  -- the day's own place is made empty
  have clear : ∀ n i, i + n = 32 → ∀ I2 : MI, (∀ a, a ≠ 195 → a ≠ 196 → I2 a = I1 a) → (∀ a j, a = 195 ∨ a = 196 → j < 32 * (d % 8) ∨ 32 * (d % 8) + 32 ≤ j → I2 a j = I1 a j) → (∀ j, j < i → I2 195 (32 * (d % 8) + j) = nI 0 ∧ I2 196 (32 * (d % 8) + j) = nI 99) → SW m_M_oneDay 216 [vr 22 186, vi (nI d), vi (nI i), un, un, un, un] [] b I2 L (kV K) := by
    intro n
    induction n with
    | zero =>
      intro i hi I2 g1 g2 g3
      obtain rfl : i = 32 := by omega
      refine v_M_oneDay_216 ?_
      simp (disch := first | omega | assumption) only [n_lit, n_gLt, n_gLe, n_gEq, n_gEq2, n_gLe2, n_gLt2, n_m1, n_add, n_mul, n_lt, n_le, n_eq, n_cl, n_in, n_rem, n_mlt, n_mle, n_ltm, n_lem, n_eqm, n_meq, n_bit, n_shl, n_b0, n_b1, n_sub, n_inT, nT, nF, lT, lF, eT, eF, not_false_eq_true, not_true_eq_false, sI_at, sI_c, sI_j, aI_at, aI_c, sL_at, sL_c, sL_j, true_and, and_true, not_true_eq_false, not_false_eq_true, forall_const, true_implies, false_implies, implies_true, if_true, if_false, ite_true, ite_false, Bool.not_eq_true, Bool.not_eq_false, Bool.true_eq_false, Bool.false_eq_true, false_and, and_false, or_true, true_or, false_or, or_false]
      have H2 : WM v t x o w I2 L := h.fr (fun j _ => by rw [g1 186 (by decide) (by decide), f1 186 (by omega)]) (by rw [g1 187 (by decide) (by decide), f1 187 (by omega)]) rfl
      have per2 : ∀ p, p < w.v.n → perM w d p I2 := fun p hp => by
        have := f4 p hp
        unfold perM at this ⊢
        rw [g1 190 (by decide) (by decide), g1 191 (by decide) (by decide), g1 192 (by decide) (by decide), g1 193 (by decide) (by decide)]
        exact this
      have no : ∀ s p, dnS 0 0 s p = false := fun s p => by
        unfold dnS
        rw [decide_eq_false (Nat.not_lt_zero p), decide_eq_false (Nat.not_lt_zero s), Bool.and_false, Bool.or_false]
      refine cm_dayC H2 hd (fun p hp => (per2 p hp).1) (fun I3 S3 => ?_) w.v.n 0 (by omega) I2 ⟨fun _ _ => rfl, fun _ _ => rfl, fun k k1 k2 s hs p hp => ?_, fun s hs p hp => ?_, fun p hp => absurd hp (Nat.not_lt_zero _)⟩
      · -- all is said: the day is kept
        have E3 := syP_end okw S3 per2
        have H3 : WM v t x o w I3 L := H2.fr (fun j _ => by rw [S3.1 186 (by omega)]) (S3.1 187 (by omega)) rfl
        refine cm_keeps H3 hd E3 (fun I4 L4 k1 k2 k3 k4 k5 k6 => ?_)
        have e4 : ∀ a, a < 186 ∨ a = 186 ∨ a = 187 ∨ a = 188 ∨ a = 189 ∨ 202 ≤ a → I4 a = I a := fun a ha => by
          rw [k1 a (by omega), S3.1 a (by omega), g1 a (by omega) (by omega), f1 a (by omega)]
        refine hK I4 L4 ⟨fun a ha => e4 a (by omega), fun j _ _ => by rw [e4 186 (by omega)]⟩ (e4 186 (by omega)) k4 ⟨?_, ?_, ?_, fun e he => ?_, fun e he => ?_⟩
        · intro j hj s hs p hp
          rw [k1 195 (by decide), k1 196 (by decide)]
          exact E3.1 j hj s hs p hp
        · intro s hs p hp
          rw [k1 197 (by decide)]
          exact E3.2.1 s hs p hp
        · intro s hs p hp
          rw [k1 198 (by decide), k1 199 (by decide), S3.1 198 (by omega), S3.1 199 (by omega), g1 198 (by decide) (by decide), g1 199 (by decide) (by decide)]
          have := f3 s hs p hp
          rw [if_pos hp] at this
          exact this
        · intro p hp
          rw [k1 190 (by decide), k1 191 (by decide), k1 192 (by decide), k1 193 (by decide), k1 194 (by decide)]
          by_cases c : e = d
          · subst c
            obtain ⟨q1, q2, q3, q4⟩ := per2 p hp
            obtain ⟨r1, r2⟩ := E3.2.2 p hp
            rw [S3.1 191 (by omega), S3.1 192 (by omega), S3.2.2.2.2 p hp, stt_sa, stt_sa]
            exact ⟨r1, q2, q3, r2, rfl⟩
          · obtain ⟨q1, q2, q3, q4, q5⟩ := D4 e (by omega) p hp
            have hj : 16 * e + p < 16 * d ∨ 16 * d + 16 ≤ 16 * e + p := by omega
            rw [S3.1 190 (by omega), S3.1 191 (by omega), S3.1 192 (by omega), S3.1 193 (by omega), S3.2.1 _ hj, g1 190 (by decide) (by decide), g1 191 (by decide) (by decide), g1 192 (by decide) (by decide), g1 193 (by decide) (by decide), g1 194 (by decide) (by decide), f2 190 _ (by decide) hj, f2 191 _ (by decide) hj, f2 192 _ (by decide) hj, f2 193 _ (by decide) hj, f1 194 (by omega)]
            exact ⟨q1, q2, q3, q4, q5⟩
        · by_cases c : e = d
          · subst c
            exact ⟨k3, k6⟩
          · obtain ⟨q1, q2⟩ := D5 e (by omega)
            refine ⟨fun j hj => ?_, by rw [k5 e c]; exact q2⟩
            rw [k2 _ (by omega), S3.1 200 (by omega), g1 200 (by decide) (by decide), f1 200 (by omega)]
            exact q1 j hj
      · have z1 : sumN (outT w d s k p (fun s t => dnS 0 0 s (w.v.fr t))) w.v.m = 0 := sumN_all0 (fun t' ht' => by
          unfold outT
          simp [no])
        have z2 : minN ((stp w d).bf s (k + 1) p) (outF w d s k p (fun s t => dnS 0 0 s (w.v.fr t))) w.v.m = (stp w d).bf s (k + 1) p := by
          refine eq_of_le_iff (fun q => ?_)
          rw [minN_iff]
          refine ⟨fun h => h.1, fun h => ⟨h, fun t' ht' => ?_⟩⟩
          unfold outF
          simp only [no, Bool.false_and, Bool.false_eq_true, and_false, if_false]
          have := bf_le w s (k + 1) p d
          omega
        rw [z1, z2, Nat.add_zero]
        by_cases c : k = 8
        · subst c
          obtain ⟨q1, q2⟩ := g3 (2 * p + s) (by omega)
          rw [show (d + 8) % 8 = d % 8 by omega, Nat.add_assoc, q1, q2, dup_big okw hs p d 9 (by omega), bf_big okw hs p d 9 (by omega)]
          exact ⟨rfl, rfl⟩
        · have hj : 32 * ((d + k) % 8) + 2 * p + s < 32 * (d % 8) ∨ 32 * (d % 8) + 32 ≤ 32 * ((d + k) % 8) + 2 * p + s := by omega
          rw [g2 195 _ (by decide) hj, g2 196 _ (by decide) hj, f1 195 (by omega), f1 196 (by omega)]
          exact D1 k (by omega) s hs p hp
      · rw [g1 197 (by decide) (by decide), f1 197 (by omega), no, Bool.false_and, if_neg (c := false = true ∧ _) (by simp), Nat.add_zero]
        exact D2 s hs p hp
    | succ n ih =>
      intro i hi I2 g1 g2 g3
      have d8 : d % 8 < 8 := Nat.mod_lt _ (by decide)
      refine v_M_oneDay_216 ?_
      simp (disch := first | omega | assumption) only [n_lit, n_gLt, n_gLe, n_gEq, n_gEq2, n_gLe2, n_gLt2, n_m1, n_add, n_mul, n_lt, n_le, n_eq, n_cl, n_in, n_rem, n_mlt, n_mle, n_ltm, n_lem, n_eqm, n_meq, n_bit, n_shl, n_b0, n_b1, n_sub, n_inT, nT, nF, lT, lF, eT, eF, not_false_eq_true, not_true_eq_false, sI_at, sI_c, sI_j, aI_at, aI_c, sL_at, sL_c, sL_j, true_and, and_true, not_true_eq_false, not_false_eq_true, forall_const, true_implies, false_implies, implies_true, if_true, if_false, ite_true, ite_false, Bool.not_eq_true, Bool.not_eq_false, Bool.true_eq_false, Bool.false_eq_true, false_and, and_false, or_true, true_or, false_or, or_false]
      refine ih (i + 1) (by omega) _ (fun a a1 a2 => by rw [sI_c a2, sI_c a1]; exact g1 a a1 a2) (fun a j ha hj => ?_) (fun j hj => ?_)
      · rw [← g2 a j ha hj]
        rcases ha with rfl | rfl
        · rw [sI_c (by decide), sI_j (by omega)]
        · rw [sI_j (by omega), sI_c (by decide)]
      · by_cases e : j = i
        · subst e
          exact ⟨by rw [sI_c (by decide), sI_at], sI_at _ _ _ _⟩
        · rw [sI_c (by decide), sI_j (by omega), sI_j (by omega), sI_c (by decide)]
          exact g3 j (by omega)
  exact clear 32 0 (by omega) I1 (fun _ _ _ => rfl) (fun _ _ _ _ => rfl) (fun j hj => absurd hj (Nat.not_lt_zero _))
theorem cm_runs {v : Vil} {t : Tel} {x : Wi} {o : Nat} {w : Wd} {u : Int32} {b : Bool} {I : MI} {L : ML} {K : Bool → MI → ML → Prop} (h : WM v t x o w I L) (hu : u = nI 0 ∨ u = nI 1) (hK : ∀ N I' L', frM I I' → (∀ a, a ≠ 201 → L' a = L a) → N ≤ 201 → dysP w N I' L' → rgM (rgU w N) I' → (u = nI 1 → N = 201) → (u = nI 0 → (rgU w N = none → N = 201) ∧ ∀ r, rgU w N = some r → N = r.1 + r.2 + 1) → K b I' L') : CV m_M_runs [vr 22 186, vi u] b I L K := by
  have okw := h.1.2.1
  have hn := okw.1.2
  have hla : w.la ≤ 200 := by
    obtain ⟨⟨ew, -, -, okt, okx⟩, -⟩ := h
    rw [ew]
    exact laW_le okt okx
  have uB : u = nI 0 ∨ ¬ u = nI 0 := by
    rcases hu with q | q
    · exact Or.inl q
    · exact Or.inr (by rw [q]; decide)
  have hM := n_negM
  have days : ∀ n N, N + n = 201 → ∀ (I1 : MI) (L1 : ML), frM I I1 → (∀ a, a ≠ 201 → L1 a = L a) → dysP w N I1 L1 → rgM (rgU w N) I1 → (u = nI 0 → rgU w N = none) → SW m_M_runs 82 [vr 22 186, vi u, vi (nI w.la), vi (nI N), un] [] b I1 L1 (kV K) := by
    intro n
    induction n with
    | zero =>
      intro N hN I1 L1 f1 f2 D R hno
      have hN2 : N = 201 := by omega
      have g := hK N I1 L1 f1 f2 (by omega) D R (fun _ => hN2) (fun q => ⟨fun _ => hN2, fun r hr => by rw [hno q] at hr; cases hr⟩)
      refine v_M_runs_82 ?_
      simp (disch := first | omega | assumption) only [n_lit, n_gLt, n_gLe, n_gEq, n_gEq2, n_gLe2, n_gLt2, n_m1, n_add, n_mul, n_lt, n_le, n_eq, n_cl, n_in, n_rem, n_mlt, n_mle, n_ltm, n_lem, n_eqm, n_meq, n_bit, n_shl, n_b0, n_b1, n_sub, n_inT, nT, nF, lT, lF, eT, eF, not_false_eq_true, not_true_eq_false, sI_at, sI_c, sI_j, aI_at, aI_c, sL_at, sL_c, sL_j, true_and, and_true, not_true_eq_false, not_false_eq_true, forall_const, true_implies, false_implies, implies_true, if_true, if_false, ite_true, ite_false, Bool.not_eq_true, Bool.not_eq_false, Bool.true_eq_false, Bool.false_eq_true, false_and, and_false, or_true, true_or, false_or, or_false]
      exact g
    | succ n ih =>
      intro N hN I1 L1 f1 f2 D R hno
      have H1 : WM v t x o w I1 L1 := h.frM f1 (f2 186 (by decide))
      refine v_M_runs_82 ?_
      simp (disch := first | omega | assumption) only [n_lit, n_gLt, n_gLe, n_gEq, n_gEq2, n_gLe2, n_gLt2, n_m1, n_add, n_mul, n_lt, n_le, n_eq, n_cl, n_in, n_rem, n_mlt, n_mle, n_ltm, n_lem, n_eqm, n_meq, n_bit, n_shl, n_b0, n_b1, n_sub, n_inT, nT, nF, lT, lF, eT, eF, not_false_eq_true, not_true_eq_false, sI_at, sI_c, sI_j, aI_at, aI_c, sL_at, sL_c, sL_j, true_and, and_true, not_true_eq_false, not_false_eq_true, forall_const, true_implies, false_implies, implies_true, if_true, if_false, ite_true, ite_false, Bool.not_eq_true, Bool.not_eq_false, Bool.true_eq_false, Bool.false_eq_true, false_and, and_false, or_true, true_or, false_or, or_false]
      refine cm_oneDay H1 (by omega) D (fun I2 L2 g1 g0 g2 D2 => ?_)
      have r39 : I2 186 39 = I1 186 39 := by rw [g0]
      have r40 : I2 186 40 = I1 186 40 := by rw [g0]
      have f12 : frM I I2 := f1.trans g1
      have l12 : ∀ a, a ≠ 201 → L2 a = L a := fun a ha => (g2 a ha).trans (f2 a ha)
      -- with what is known of the ring then
      have next : ∀ I3 : MI, (∀ a, a ≠ 186 → I3 a = I2 a) → (∀ j, j ≠ 39 → j ≠ 40 → I3 186 j = I2 186 j) → rgM (rgU w (N + 1)) I3 → ((u = nI 0 → rgU w (N + 1) = none) → SW m_M_runs 82 [vr 22 186, vi u, vi (nI w.la), vi (nI (N + 1)), un] [] b I3 L2 (kV K)) ∧ (u = nI 0 → (∀ r, rgU w (N + 1) = some r → N + 1 = r.1 + r.2 + 1) → (rgU w (N + 1) = none → False) → K b I3 L2) := by
        intro I3 k1 k2 k3
        have f3 : frM I I3 := f12.trans ⟨fun a ha => k1 a (by omega), k2⟩
        have D3 : dysP w (N + 1) I3 L2 := by
          obtain ⟨q1, q2, q3, q4, q5⟩ := D2
          refine ⟨?_, ?_, ?_, ?_, ?_⟩
          · intro j hj s hs p hp; rw [k1 195 (by decide), k1 196 (by decide)]; exact q1 j hj s hs p hp
          · intro s hs p hp; rw [k1 197 (by decide)]; exact q2 s hs p hp
          · intro s hs p hp; rw [k1 198 (by decide), k1 199 (by decide)]; exact q3 s hs p hp
          · intro e he p hp; rw [k1 190 (by decide), k1 191 (by decide), k1 192 (by decide), k1 193 (by decide), k1 194 (by decide)]; exact q4 e he p hp
          · intro e he
            unfold lkP
            rw [k1 200 (by decide)]
            exact q5 e he
        exact ⟨fun q => ih (N + 1) (by omega) I3 L2 f3 l12 D3 k3 q, fun q q2 q3 => hK (N + 1) I3 L2 f3 l12 (by omega) D3 k3 (fun z => by rw [q] at z; exact absurd z (by decide)) (fun _ => ⟨fun z => absurd z q3, q2⟩)⟩
      cases hrg : rgU w N with
      | some r =>
        have hu1 : ¬ u = nI 0 := fun q => by
          have := hno q
          rw [hrg] at this
          cases this
        have hs : rgU w (N + 1) = some r := rgU_mono hrg 1
        rw [hrg] at R
        have rr := rgU_some (a := r.1) (l := r.2) hrg
        have e39 : I2 186 39 = nI r.1 := r39.trans R.1
        have g := (next I2 (fun _ _ => rfl) (fun _ _ _ => rfl) (by rw [hs]; exact ⟨e39, r40.trans R.2⟩)).1 (fun q => absurd q hu1)
        refine v_M_runs_97 ?_
        have c : w.la < N := by omega
        simp (disch := first | omega | assumption) only [n_lit, n_gLt, n_gLe, n_gEq, n_gEq2, n_gLe2, n_gLt2, n_m1, n_add, n_mul, n_lt, n_le, n_eq, n_cl, n_in, n_rem, n_mlt, n_mle, n_ltm, n_lem, n_eqm, n_meq, n_bit, n_shl, n_b0, n_b1, n_sub, n_inT, nT, nF, lT, lF, eT, eF, not_false_eq_true, not_true_eq_false, sI_at, sI_c, sI_j, aI_at, aI_c, sL_at, sL_c, sL_j, true_and, and_true, not_true_eq_false, not_false_eq_true, forall_const, true_implies, false_implies, implies_true, if_true, if_false, ite_true, ite_false, Bool.not_eq_true, Bool.not_eq_false, Bool.true_eq_false, Bool.false_eq_true, false_and, and_false, or_true, true_or, false_or, or_false, e39, hu1]
        exact g
      | none =>
        rw [hrg] at R
        have e39 : I2 186 39 = nM := r39.trans R.1
        have e40 : I2 186 40 = nM := r40.trans R.2
        have hs : rgU w (N + 1) = rgO N (rgD w N) := rgU_next hrg
        have lkr : ∀ e, e ≤ N → lkP w e I2 L2 := fun e he => D2.2.2.2.2 e (by omega)
        -- a day that is like it is looked for
        have loop : ∀ m i, (i + m = N ∨ (m = 0 ∧ N ≤ i)) → i ≤ 201 → w.la ≤ i → (∀ j, w.la ≤ j → j < i → j < N → alk w (stt w j) (stt w N) = false) → SW m_M_runs 97 [vr 22 186, vi u, vi (nI w.la), vi (nI N), vi (nI i)] [] b I2 L2 (kV K) := by
          intro m
          induction m with
          | zero =>
            intro i hi hi2 hl hno2
            have hnone : rgD w N = none := fstN_none.mpr (fun j j1 j2 => hno2 j j1 (by omega) (by omega))
            rw [hnone] at hs
            have g := (next I2 (fun _ _ => rfl) (fun _ _ _ => rfl) (by rw [hs]; exact ⟨e39, e40⟩)).1 (fun _ => hs)
            refine v_M_runs_97 ?_
            simp (disch := first | omega | assumption) only [n_lit, n_gLt, n_gLe, n_gEq, n_gEq2, n_gLe2, n_gLt2, n_m1, n_add, n_mul, n_lt, n_le, n_eq, n_cl, n_in, n_rem, n_mlt, n_mle, n_ltm, n_lem, n_eqm, n_meq, n_bit, n_shl, n_b0, n_b1, n_sub, n_inT, nT, nF, lT, lF, eT, eF, not_false_eq_true, not_true_eq_false, sI_at, sI_c, sI_j, aI_at, aI_c, sL_at, sL_c, sL_j, true_and, and_true, not_true_eq_false, not_false_eq_true, forall_const, true_implies, false_implies, implies_true, if_true, if_false, ite_true, ite_false, Bool.not_eq_true, Bool.not_eq_false, Bool.true_eq_false, Bool.false_eq_true, false_and, and_false, or_true, true_or, false_or, or_false, e39]
            exact g
          | succ m ihm =>
            intro i hi hi2 hl hno2
            have hid : i < N := by omega
            have z : (nI 0 ≤ nM) = False := n_lem (by decide)
            refine v_M_runs_97 ?_
            simp (disch := first | omega | assumption) only [n_lit, n_gLt, n_gLe, n_gEq, n_gEq2, n_gLe2, n_gLt2, n_m1, n_add, n_mul, n_lt, n_le, n_eq, n_cl, n_in, n_rem, n_mlt, n_mle, n_ltm, n_lem, n_eqm, n_meq, n_bit, n_shl, n_b0, n_b1, n_sub, n_inT, nT, nF, lT, lF, eT, eF, not_false_eq_true, not_true_eq_false, sI_at, sI_c, sI_j, aI_at, aI_c, sL_at, sL_c, sL_j, true_and, and_true, not_true_eq_false, not_false_eq_true, forall_const, true_implies, false_implies, implies_true, if_true, if_false, ite_true, ite_false, Bool.not_eq_true, Bool.not_eq_false, Bool.true_eq_false, Bool.false_eq_true, false_and, and_false, or_true, true_or, false_or, or_false, e39, z]
            refine cm_areLike okw (by omega) (by omega) (lkr i (by omega)) (lkr N (Nat.le_refl _)) ?_
            cases hal : alk w (stt w i) (stt w N) with
            | false =>
              have g := ihm (i + 1) (by omega) (by omega) (by omega) (fun j j1 j2 j3 => by
                by_cases e : j = i
                · subst e; exact hal
                · exact hno2 j j1 (by omega) j3)
              simp (disch := first | omega | assumption) only [n_lit, n_gLt, n_gLe, n_gEq, n_gEq2, n_gLe2, n_gLt2, n_m1, n_add, n_mul, n_lt, n_le, n_eq, n_cl, n_in, n_rem, n_mlt, n_mle, n_ltm, n_lem, n_eqm, n_meq, n_bit, n_shl, n_b0, n_b1, n_sub, n_inT, nT, nF, lT, lF, eT, eF, not_false_eq_true, not_true_eq_false, sI_at, sI_c, sI_j, aI_at, aI_c, sL_at, sL_c, sL_j, true_and, and_true, not_true_eq_false, not_false_eq_true, forall_const, true_implies, false_implies, implies_true, if_true, if_false, ite_true, ite_false, Bool.not_eq_true, Bool.not_eq_false, Bool.true_eq_false, Bool.false_eq_true, false_and, and_false, or_true, true_or, false_or, or_false, Bool.toNat_false]
              exact g
            | true =>
              have hsome : rgD w N = some i := fstN_at hl (by omega) (fun j j1 j2 => hno2 j j1 j2 (by omega)) hal
              rw [hsome] at hs
              have hs : rgU w (N + 1) = some (i, N - i) := hs
              obtain ⟨g1, g2⟩ := next (sI (sI I2 186 39 (nI i)) 186 40 (nI (N - i))) (fun a ha => by rw [sI_c ha, sI_c ha]) (fun j j1 j2 => by rw [sI_j j2, sI_j j1]) (by rw [hs]; exact ⟨by rw [sI_j (by decide), sI_at], sI_at _ _ _ _⟩)
              rw [hs] at g1 g2
              simp (disch := first | omega | assumption) only [n_lit, n_gLt, n_gLe, n_gEq, n_gEq2, n_gLe2, n_gLt2, n_m1, n_add, n_mul, n_lt, n_le, n_eq, n_cl, n_in, n_rem, n_mlt, n_mle, n_ltm, n_lem, n_eqm, n_meq, n_bit, n_shl, n_b0, n_b1, n_sub, n_inT, nT, nF, lT, lF, eT, eF, not_false_eq_true, not_true_eq_false, sI_at, sI_c, sI_j, aI_at, aI_c, sL_at, sL_c, sL_j, true_and, and_true, not_true_eq_false, not_false_eq_true, forall_const, true_implies, false_implies, implies_true, if_true, if_false, ite_true, ite_false, Bool.not_eq_true, Bool.not_eq_false, Bool.true_eq_false, Bool.false_eq_true, false_and, and_false, or_true, true_or, false_or, or_false, Bool.toNat_true]
              refine v_M_runs_97 ?_
              rcases uB with q | q
              · have g := g2 q (fun r hr => by cases hr; show N + 1 = i + (N - i) + 1; omega) (fun z => by cases z)
                by_cases c : N ≤ i + 1
                · simp (disch := first | omega | assumption) only [n_lit, n_gLt, n_gLe, n_gEq, n_gEq2, n_gLe2, n_gLt2, n_m1, n_add, n_mul, n_lt, n_le, n_eq, n_cl, n_in, n_rem, n_mlt, n_mle, n_ltm, n_lem, n_eqm, n_meq, n_bit, n_shl, n_b0, n_b1, n_sub, n_inT, nT, nF, lT, lF, eT, eF, not_false_eq_true, not_true_eq_false, sI_at, sI_c, sI_j, aI_at, aI_c, sL_at, sL_c, sL_j, true_and, and_true, not_true_eq_false, not_false_eq_true, forall_const, true_implies, false_implies, implies_true, if_true, if_false, ite_true, ite_false, Bool.not_eq_true, Bool.not_eq_false, Bool.true_eq_false, Bool.false_eq_true, false_and, and_false, or_true, true_or, false_or, or_false, q]
                  exact g
                · simp (disch := first | omega | assumption) only [n_lit, n_gLt, n_gLe, n_gEq, n_gEq2, n_gLe2, n_gLt2, n_m1, n_add, n_mul, n_lt, n_le, n_eq, n_cl, n_in, n_rem, n_mlt, n_mle, n_ltm, n_lem, n_eqm, n_meq, n_bit, n_shl, n_b0, n_b1, n_sub, n_inT, nT, nF, lT, lF, eT, eF, not_false_eq_true, not_true_eq_false, sI_at, sI_c, sI_j, aI_at, aI_c, sL_at, sL_c, sL_j, true_and, and_true, not_true_eq_false, not_false_eq_true, forall_const, true_implies, false_implies, implies_true, if_true, if_false, ite_true, ite_false, Bool.not_eq_true, Bool.not_eq_false, Bool.true_eq_false, Bool.false_eq_true, false_and, and_false, or_true, true_or, false_or, or_false, q]
                  exact g
              · have g := g1 (fun z => absurd z q)
                by_cases c : N ≤ i + 1
                · simp (disch := first | omega | assumption) only [n_lit, n_gLt, n_gLe, n_gEq, n_gEq2, n_gLe2, n_gLt2, n_m1, n_add, n_mul, n_lt, n_le, n_eq, n_cl, n_in, n_rem, n_mlt, n_mle, n_ltm, n_lem, n_eqm, n_meq, n_bit, n_shl, n_b0, n_b1, n_sub, n_inT, nT, nF, lT, lF, eT, eF, not_false_eq_true, not_true_eq_false, sI_at, sI_c, sI_j, aI_at, aI_c, sL_at, sL_c, sL_j, true_and, and_true, not_true_eq_false, not_false_eq_true, forall_const, true_implies, false_implies, implies_true, if_true, if_false, ite_true, ite_false, Bool.not_eq_true, Bool.not_eq_false, Bool.true_eq_false, Bool.false_eq_true, false_and, and_false, or_true, true_or, false_or, or_false, q]
                  exact g
                · simp (disch := first | omega | assumption) only [n_lit, n_gLt, n_gLe, n_gEq, n_gEq2, n_gLe2, n_gLt2, n_m1, n_add, n_mul, n_lt, n_le, n_eq, n_cl, n_in, n_rem, n_mlt, n_mle, n_ltm, n_lem, n_eqm, n_meq, n_bit, n_shl, n_b0, n_b1, n_sub, n_inT, nT, nF, lT, lF, eT, eF, not_false_eq_true, not_true_eq_false, sI_at, sI_c, sI_j, aI_at, aI_c, sL_at, sL_c, sL_j, true_and, and_true, not_true_eq_false, not_false_eq_true, forall_const, true_implies, false_implies, implies_true, if_true, if_false, ite_true, ite_false, Bool.not_eq_true, Bool.not_eq_false, Bool.true_eq_false, Bool.false_eq_true, false_and, and_false, or_true, true_or, false_or, or_false, q]
                  exact g
        exact loop (N - w.la) w.la (by omega) (by omega) (Nat.le_refl _) (fun j j1 j2 j3 => by omega)
  -- all is made empty ahead of it
  have empty2 : ∀ n i, i + n = 32 → ∀ I1 : MI, (∀ a, a < 195 ∨ 199 < a → I1 a = I a) → (∀ j, j < 256 → I1 195 j = nI 0 ∧ I1 196 j = nI 99) → (∀ j, j < i → I1 197 j = nI 0 ∧ I1 198 j = nM ∧ I1 199 j = nM) → SW m_M_runs 32 [vr 22 186, vi u, vi (nI i), un, un] [] b I1 L (kV K) := by
    intro n
    induction n with
    | zero =>
      intro i hi I1 f1 f2 f3
      obtain rfl : i = 32 := by omega
      refine v_M_runs_32 ?_
      simp (disch := first | omega | assumption) only [n_lit, n_gLt, n_gLe, n_gEq, n_gEq2, n_gLe2, n_gLt2, n_m1, n_add, n_mul, n_lt, n_le, n_eq, n_cl, n_in, n_rem, n_mlt, n_mle, n_ltm, n_lem, n_eqm, n_meq, n_bit, n_shl, n_b0, n_b1, n_sub, n_inT, nT, nF, lT, lF, eT, eF, not_false_eq_true, not_true_eq_false, sI_at, sI_c, sI_j, aI_at, aI_c, sL_at, sL_c, sL_j, true_and, and_true, not_true_eq_false, not_false_eq_true, forall_const, true_implies, false_implies, implies_true, if_true, if_false, ite_true, ite_false, Bool.not_eq_true, Bool.not_eq_false, Bool.true_eq_false, Bool.false_eq_true, false_and, and_false, or_true, true_or, false_or, or_false]
      refine cm_lastDay (v := v) (t := t) (x := x) (o := o) (w := w) (h.fr (fun j hj => by rw [sI_j (by omega), sI_j (by omega), f1 186 (by omega)]) (by rw [sI_c (by decide), sI_c (by decide), f1 187 (by omega)]) rfl) ?_
      refine days 201 0 (by omega) _ L ⟨fun a ha => ?_, fun j j1 j2 => ?_⟩ (fun _ _ => rfl) ⟨?_, ?_, ?_, fun e he => absurd he (Nat.not_lt_zero _), fun e he => absurd he (Nat.not_lt_zero _)⟩ ⟨?_, ?_⟩ (fun _ => rfl)
      · rw [sI_c (by omega), sI_c (by omega)]; exact f1 a (by omega)
      · rw [sI_j j2, sI_j j1, f1 186 (by omega)]
      · intro j hj s hs p hp
        rw [sI_c (by decide), sI_c (by decide), sI_c (by decide), sI_c (by decide)]
        exact f2 _ (by omega)
      · intro s hs p hp
        rw [sI_c (by decide), sI_c (by decide), (f3 _ (by omega)).1]
        exact congrArg nI (ite_same (c := p < w.v.n) 0).symm
      · intro s hs p hp
        rw [sI_c (by decide), sI_c (by decide), sI_c (by decide), sI_c (by decide)]
        exact (f3 _ (by omega)).2
      · rw [sI_j (by decide), sI_at]
      · exact sI_at _ _ _ _
    | succ n ih =>
      intro i hi I1 f1 f2 f3
      refine v_M_runs_32 ?_
      simp (disch := first | omega | assumption) only [n_lit, n_gLt, n_gLe, n_gEq, n_gEq2, n_gLe2, n_gLt2, n_m1, n_add, n_mul, n_lt, n_le, n_eq, n_cl, n_in, n_rem, n_mlt, n_mle, n_ltm, n_lem, n_eqm, n_meq, n_bit, n_shl, n_b0, n_b1, n_sub, n_inT, nT, nF, lT, lF, eT, eF, not_false_eq_true, not_true_eq_false, sI_at, sI_c, sI_j, aI_at, aI_c, sL_at, sL_c, sL_j, true_and, and_true, not_true_eq_false, not_false_eq_true, forall_const, true_implies, false_implies, implies_true, if_true, if_false, ite_true, ite_false, Bool.not_eq_true, Bool.not_eq_false, Bool.true_eq_false, Bool.false_eq_true, false_and, and_false, or_true, true_or, false_or, or_false]
      refine ih (i + 1) (by omega) _ (fun a ha => by rw [sI_c (by omega), sI_c (by omega), sI_c (by omega)]; exact f1 a ha) (fun j hj => by rw [sI_c (by decide), sI_c (by decide), sI_c (by decide), sI_c (by decide), sI_c (by decide), sI_c (by decide)]; exact f2 j hj) (fun j hj => ?_)
      by_cases e : j = i
      · subst e
        refine ⟨by rw [sI_c (by decide), sI_c (by decide), sI_at], by rw [sI_c (by decide), sI_at], sI_at _ _ _ _⟩
      · rw [sI_c (by decide), sI_c (by decide), sI_j e, sI_c (by decide), sI_j e, sI_c (by decide), sI_j e, sI_c (by decide), sI_c (by decide)]
        exact f3 j (by omega)
  have empty1 : ∀ n i, i + n = 256 → ∀ I1 : MI, (∀ a, a ≠ 195 → a ≠ 196 → I1 a = I a) → (∀ j, j < i → I1 195 j = nI 0 ∧ I1 196 j = nI 99) → SW m_M_runs 2 [vr 22 186, vi u, vi (nI i), un, un] [] b I1 L (kV K) := by
    intro n
    induction n with
    | zero =>
      intro i hi I1 f1 f2
      obtain rfl : i = 256 := by omega
      refine v_M_runs_2 ?_
      simp (disch := first | omega | assumption) only [n_lit, n_gLt, n_gLe, n_gEq, n_gEq2, n_gLe2, n_gLt2, n_m1, n_add, n_mul, n_lt, n_le, n_eq, n_cl, n_in, n_rem, n_mlt, n_mle, n_ltm, n_lem, n_eqm, n_meq, n_bit, n_shl, n_b0, n_b1, n_sub, n_inT, nT, nF, lT, lF, eT, eF, not_false_eq_true, not_true_eq_false, sI_at, sI_c, sI_j, aI_at, aI_c, sL_at, sL_c, sL_j, true_and, and_true, not_true_eq_false, not_false_eq_true, forall_const, true_implies, false_implies, implies_true, if_true, if_false, ite_true, ite_false, Bool.not_eq_true, Bool.not_eq_false, Bool.true_eq_false, Bool.false_eq_true, false_and, and_false, or_true, true_or, false_or, or_false]
      exact empty2 32 0 (by omega) I1 (fun a ha => f1 a (by omega) (by omega)) f2 (fun j hj => absurd hj (Nat.not_lt_zero _))
    | succ n ih =>
      intro i hi I1 f1 f2
      refine v_M_runs_2 ?_
      simp (disch := first | omega | assumption) only [n_lit, n_gLt, n_gLe, n_gEq, n_gEq2, n_gLe2, n_gLt2, n_m1, n_add, n_mul, n_lt, n_le, n_eq, n_cl, n_in, n_rem, n_mlt, n_mle, n_ltm, n_lem, n_eqm, n_meq, n_bit, n_shl, n_b0, n_b1, n_sub, n_inT, nT, nF, lT, lF, eT, eF, not_false_eq_true, not_true_eq_false, sI_at, sI_c, sI_j, aI_at, aI_c, sL_at, sL_c, sL_j, true_and, and_true, not_true_eq_false, not_false_eq_true, forall_const, true_implies, false_implies, implies_true, if_true, if_false, ite_true, ite_false, Bool.not_eq_true, Bool.not_eq_false, Bool.true_eq_false, Bool.false_eq_true, false_and, and_false, or_true, true_or, false_or, or_false]
      refine ih (i + 1) (by omega) _ (fun a a1 a2 => by rw [sI_c a2, sI_c a1]; exact f1 a a1 a2) (fun j hj => ?_)
      by_cases e : j = i
      · subst e
        exact ⟨by rw [sI_c (by decide), sI_at], sI_at _ _ _ _⟩
      · rw [sI_c (by decide), sI_j e, sI_j e, sI_c (by decide)]
        exact f2 j (by omega)
  exact v_M_runs_0 (empty1 256 0 (by omega) I (fun _ _ _ => rfl) (fun j hj => absurd hj (Nat.not_lt_zero _)))
