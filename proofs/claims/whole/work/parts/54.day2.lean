/-! A DAY of the reference: what each one says -/
theorem bf_big {w : Wd} (ok : w.v.ok 41) {s : Nat} (hs : s < 2) (p d k : Nat) (hk : 7 ≤ k) : (stp w d).bf s k p = 99 := by
  cases d with
  | zero => rfl
  | succ d =>
    show (stt w d).bf s k p = 99
    rw [bf_hist]
    refine eq_of_le_iff (fun q => ?_)
    rw [minN_iff]
    constructor
    · exact fun h => h.1
    · intro h
      refine ⟨h, fun t ht => ?_⟩
      have := dl_le ok hs ht
      rw [if_neg (by omega)]
      exact h
theorem dup_big {w : Wd} (ok : w.v.ok 41) {s : Nat} (hs : s < 2) (p d k : Nat) (hk : 7 ≤ k) : (stp w d).du s k p = 0 := by
  cases d with
  | zero => rfl
  | succ d => exact du_big ok hs p d k hk
theorem sumN_all0 {f : Nat → Nat} {n : Nat} (h : ∀ i, i < n → f i = 0) : sumN f n = 0 := (sumN_cong (g := fun _ => 0) h).trans (sumN_zero n)
/-- who has said already: the first persons, and the one at hand on the first sides -/
def dnS (i q s p : Nat) : Bool := decide (p < i) || (decide (p = i) && decide (s < q))
/-- on how many days it was said, while a day's sayings go on -/
def sdP (w : Wd) (d i q : Nat) (I : MI) : Prop := ∀ s, s < 2 → ∀ p, p < 16 → I 197 (2 * p + s) = nI (if p < w.v.n then (stp w d).cn s p + (if (dnS i q s p && saS w d (stp w d) s p) = true ∧ 0 < w.v.lim s p then 1 else 0) else 0)
/-- a day's sayings, as far as they have gone -/
def syP (w : Wd) (d i q : Nat) (I0 I : MI) : Prop := (∀ a, a < 194 ∨ 197 < a → I a = I0 a) ∧ (∀ j, j < 16 * d ∨ 16 * d + 16 ≤ j → I 194 j = I0 194 j) ∧ tbP w d (fun s t => dnS i q s (w.v.fr t)) I ∧ sdP w d i q I ∧ ∀ p, p < i → I 194 (16 * d + p) = nI (hc (saS w d (stp w d) 0 p) (saS w d (stp w d) 1 p))
theorem dnS_next (i s p : Nat) (hs : s < 2) : dnS (i + 1) 0 s p = dnS i 2 s p := by
  unfold dnS
  rw [decide_eq_false (Nat.not_lt_zero s), Bool.and_false, Bool.or_false, decide_eq_true hs, Bool.and_true]
  by_cases e : p = i
  · subst e
    rw [decide_eq_true (by omega : p < p + 1), decide_eq_true rfl, Bool.or_true]
  · rw [decide_eq_false e, Bool.or_false]
    exact decide_eq_decide.mpr ⟨fun _ => by omega, fun _ => by omega⟩
theorem dnS_step (i q s p : Nat) : dnS i (q + 1) s p = (dnS i q s p || (decide (s = q) && decide (p = i))) := by
  unfold dnS
  by_cases e : p = i
  · subst e
    rw [decide_eq_true rfl, Bool.and_true, Bool.true_and, Bool.true_and, Bool.or_assoc]
    congr 1
    by_cases c : s = q
    · subst c
      rw [decide_eq_true (by omega : s < s + 1), decide_eq_true rfl, Bool.or_true]
    · rw [decide_eq_false c, Bool.or_false]
      exact decide_eq_decide.mpr ⟨fun _ => by omega, fun _ => by omega⟩
  · rw [decide_eq_false e, Bool.and_false, Bool.false_and, Bool.false_and, Bool.or_false, Bool.or_false]
theorem cm_dayC {v : Vil} {t : Tel} {x : Wi} {o : Nat} {w : Wd} {d : Nat} {b : Bool} {I0 : MI} {L : ML} {K : Bool → MI → ML → Prop} (h : WM v t x o w I0 L) (hd : d ≤ 200) (hhv : ∀ p, p < w.v.n → I0 190 (16 * d + p) = nI (hc (haS w d (stp w d) 0 p) (haS w d (stp w d) 1 p))) (hK : ∀ I', syP w d w.v.n 0 I0 I' → CV m_M_keeps [vr 22 186, vi (nI d)] b I' L K) : ∀ n i, i + n = w.v.n → ∀ I1 : MI, syP w d i 0 I0 I1 → SW m_M_oneDay 261 [vr 22 186, vi (nI d), vi (nI i), un, un, un, un] [] b I1 L (kV K) := by
  intro n
  have H := h
  have okw := h.1.2.1
  have hn := okw.1.2
  induction n with
  | zero =>
    intro i hi I1 S1
    obtain rfl : i = w.v.n := by omega
    have H1 : WM v t x o w I1 L := H.fr (fun j _ => by rw [S1.1 186 (by omega)]) (S1.1 187 (by omega)) rfl
    refine v_M_oneDay_261 (cm_people H1 ?_)
    simp (disch := first | omega | assumption) only [n_lit, n_gLt, n_gLe, n_gEq, n_gEq2, n_gLe2, n_gLt2, n_m1, n_add, n_mul, n_lt, n_le, n_eq, n_cl, n_in, n_rem, n_mlt, n_mle, n_ltm, n_lem, n_eqm, n_meq, n_bit, n_shl, n_b0, n_b1, n_sub, n_inT, nT, nF, lT, lF, eT, eF, not_false_eq_true, not_true_eq_false, sI_at, sI_c, sI_j, aI_at, aI_c, sL_at, sL_c, sL_j, true_and, and_true, not_true_eq_false, not_false_eq_true, forall_const, true_implies, false_implies, implies_true, if_true, if_false, ite_true, ite_false, Bool.not_eq_true, Bool.not_eq_false, Bool.true_eq_false, Bool.false_eq_true, false_and, and_false, or_true, true_or, false_or, or_false]
    exact hK I1 S1
  | succ n ih =>
    intro i hi I1 S1
    have H1 : WM v t x o w I1 L := H.fr (fun j _ => by rw [S1.1 186 (by omega)]) (S1.1 187 (by omega)) rfl
    have hk5 := (okw.2.2.2.2.2.1 i (by omega)).1
    -- the two sides
    have sides : ∀ m q, q + m = 2 → ∀ I2 : MI, syP w d i q I0 I2 → I2 194 (16 * d + i) = nI (hc (decide (0 < q) && saS w d (stp w d) 0 i) (decide (1 < q) && saS w d (stp w d) 1 i)) → SW m_M_oneDay 286 [vr 22 186, vi (nI d), vi (nI i), vi (nI (16 * d + i)), vi (nI q), un, un] [] b I2 L (kV K) := by
      intro m
      -- nothing more is said by this one
      have leave : ∀ q I2, q ≤ 2 → syP w d i q I0 I2 → (∀ s, q ≤ s → s < 2 → saS w d (stp w d) s i = false) → I2 194 (16 * d + i) = nI (hc (decide (0 < q) && saS w d (stp w d) 0 i) (decide (1 < q) && saS w d (stp w d) 1 i)) → SW m_M_oneDay 261 [vr 22 186, vi (nI d), vi (nI (i + 1)), un, un, un, un] [] b I2 L (kV K) := by
        intro q I2 hq2 S2 hno e194
        obtain ⟨a1, a2, a3, a4, a5⟩ := S2
        have eq : ∀ s, s < 2 → ∀ p, (dnS (i + 1) 0 s p && saS w d (stp w d) s p) = (dnS i q s p && saS w d (stp w d) s p) := by
          intro s hs p
          rw [dnS_next i s p hs]
          by_cases c : p = i
          · subst c
            by_cases c2 : q ≤ s
            · rw [hno s c2 hs, Bool.and_false, Bool.and_false]
            · unfold dnS
              rw [decide_eq_true hs, decide_eq_true (by omega : s < q)]
          · unfold dnS
            rw [decide_eq_false c, Bool.false_and, Bool.false_and]
        refine ih (i + 1) (by omega) I2 ⟨a1, a2, tbP_cong (I := I2) rfl rfl (fun s hs t' ht' => ?_) a3, fun s hs p hp => ?_, fun p hp => ?_⟩
        · have := eq s hs (w.v.fr t')
          unfold goS
          rw [← Bool.and_assoc, ← Bool.and_assoc, this]
        · rw [a4 s hs p hp, eq s hs p]
        · by_cases c : p = i
          · subst c
            rw [e194]
            have z0 : (decide (0 < q) && saS w d (stp w d) 0 p) = saS w d (stp w d) 0 p := by
              by_cases c : 0 < q
              · rw [decide_eq_true c, Bool.true_and]
              · rw [hno 0 (by omega) (by decide), Bool.and_false]
            have z1 : (decide (1 < q) && saS w d (stp w d) 1 p) = saS w d (stp w d) 1 p := by
              by_cases c : 1 < q
              · rw [decide_eq_true c, Bool.true_and]
              · rw [hno 1 (by omega) (by decide), Bool.and_false]
            rw [z0, z1]
          · exact a5 p (by omega)
      induction m with
      | zero =>
        intro q hq I2 S2 e194
        obtain rfl : q = 2 := by omega
        have g := leave 2 I2 (Nat.le_refl _) S2 (fun s s1 s2 => by omega) e194
        refine v_M_oneDay_286 ?_
        simp (disch := first | omega | assumption) only [n_lit, n_gLt, n_gLe, n_gEq, n_gEq2, n_gLe2, n_gLt2, n_m1, n_add, n_mul, n_lt, n_le, n_eq, n_cl, n_in, n_rem, n_mlt, n_mle, n_ltm, n_lem, n_eqm, n_meq, n_bit, n_shl, n_b0, n_b1, n_sub, n_inT, nT, nF, lT, lF, eT, eF, not_false_eq_true, not_true_eq_false, sI_at, sI_c, sI_j, aI_at, aI_c, sL_at, sL_c, sL_j, true_and, and_true, not_true_eq_false, not_false_eq_true, forall_const, true_implies, false_implies, implies_true, if_true, if_false, ite_true, ite_false, Bool.not_eq_true, Bool.not_eq_false, Bool.true_eq_false, Bool.false_eq_true, false_and, and_false, or_true, true_or, false_or, or_false]
        exact g
      | succ m ihm =>
        intro q hq I2 S2 e194
        have hq2 : q < 2 := by omega
        have S2' := S2
        obtain ⟨Z, hZ⟩ : ∃ Z : Int32, I2 194 (16 * d + i) = Z := ⟨_, rfl⟩
        obtain ⟨a1, a2, a3, a4, a5⟩ := S2
        have H2 : WM v t x o w I2 L := H.fr (fun j _ => by rw [a1 186 (by omega)]) (a1 187 (by omega)) rfl
        have e16 : bt (I2 186 16) i = w.si i := by
          rw [H2.2.2.2.1.2.2.2.2.1 i (by omega), H2.1.1]
          rfl
        have e11 : I2 186 11 = nI o := H2.2.1.2.1
        have ho := H2.2.1.1
        have e190 : I2 190 (16 * d + i) = nI (hc (haS w d (stp w d) 0 i) (haS w d (stp w d) 1 i)) := by rw [a1 190 (by omega)]; exact hhv i (by omega)
        have eb : bt (nI (hc (haS w d (stp w d) 0 i) (haS w d (stp w d) 1 i))) q = haS w d (stp w d) q i := by
          rcases (by omega : q = 0 ∨ q = 1) with rfl | rfl
          · exact hc_b0 _ _
          · exact hc_b1 _ _
        have e197 : I2 197 (2 * i + q) = nI ((stp w d).cn q i) := by
          rw [a4 q hq2 i (by omega), if_pos (by omega)]
          have : dnS i q q i = false := by
            unfold dnS
            rw [decide_eq_false (Nat.lt_irrefl i), decide_eq_false (Nat.lt_irrefl q), Bool.and_false, Bool.or_false]
          rw [this, Bool.false_and, if_neg (by simp), Nat.add_zero]
        have hcn := cnp_le w q i d
        have hlim := lim_le okw q i
        have etr : w.v.kd i ≠ 5 → I2 187 (o + 3 + q) = nI (w.v.lim q i) := by
          intro c
          obtain ⟨-, -, -, x4, x5⟩ := H2.2.1.2.2.1
          have n3 := H2.2.2.2.2.1.2.2.1
          have n4 := H2.2.2.2.2.1.2.2.2
          unfold Vil.lim
          rw [if_neg c]
          rcases (by omega : q = 0 ∨ q = 1) with rfl | rfl
          · rw [if_pos rfl, n3]; exact x4
          · rw [if_neg (by decide), n4]; exact x5
        have elim5 : w.v.kd i = 5 → w.v.lim q i = 1 := fun c => by
          unfold Vil.lim
          rw [if_pos c]
        have hsa : saS w d (stp w d) q i = (haS w d (stp w d) q i && (!w.si i && (decide (w.v.lim q i = 0) || decide ((stp w d).cn q i < w.v.lim q i)))) := rfl
        -- not said on this side
        have skip : saS w d (stp w d) q i = false → SW m_M_oneDay 286 [vr 22 186, vi (nI d), vi (nI i), vi (nI (16 * d + i)), vi (nI (q + 1)), un, un] [] b I2 L (kV K) := by
          intro hf
          have eq : ∀ s p, (dnS i (q + 1) s p && saS w d (stp w d) s p) = (dnS i q s p && saS w d (stp w d) s p) := by
            intro s p
            rw [dnS_step]
            by_cases c : s = q ∧ p = i
            · obtain ⟨rfl, rfl⟩ := c
              rw [hf, Bool.and_false, Bool.and_false]
            · have : (decide (s = q) && decide (p = i)) = false := by
                rw [Bool.and_eq_false_iff, decide_eq_false_iff_not, decide_eq_false_iff_not]
                by_cases c1 : s = q
                · exact Or.inr (fun z => c ⟨c1, z⟩)
                · exact Or.inl c1
              rw [this, Bool.or_false]
          refine ihm (q + 1) (by omega) I2 ⟨a1, a2, tbP_cong (I := I2) rfl rfl (fun s hs t' ht' => ?_) a3, fun s hs p hp => ?_, a5⟩ ?_
          · have := eq s (w.v.fr t')
            unfold goS
            rw [← Bool.and_assoc, ← Bool.and_assoc, this]
          · rw [a4 s hs p hp, eq s p]
          · rw [e194]
            rcases (by omega : q = 0 ∨ q = 1) with rfl | rfl
            · rw [hf]; rfl
            · rw [hf]; rfl
        -- said
        have said : saS w d (stp w d) q i = true → ∀ I3 : MI, (∀ a, a ≠ 194 → a ≠ 197 → I3 a = I2 a) → (∀ j, j ≠ 16 * d + i → I3 194 j = I2 194 j) → (∀ j, j ≠ 2 * i + q → I3 197 j = I2 197 j) → I3 197 (2 * i + q) = nI ((stp w d).cn q i + (if 0 < w.v.lim q i then 1 else 0)) → I3 194 (16 * d + i) = (I2 194 (16 * d + i) ||| nI (2 ^ q)) → CV m_M_speaks [vr 22 186, vi (nI i), vi (nI d), vi (nI q)] b I3 L (fun b I L => SW m_M_oneDay 286 [vr 22 186, vi (nI d), vi (nI i), vi (nI (16 * d + i)), vi (nI (q + 1)), un, un] [] b I L (kV K)) := by
          intro hs1 I3 g1 g2 g3 g4 g5
          have H3 : WM v t x o w I3 L := H2.fr (fun j _ => by rw [g1 186 (by decide) (by decide)]) (g1 187 (by decide) (by decide)) rfl
          refine cm_speaks (D := fun s t => dnS i q s (w.v.fr t)) H3 hd hq2 (by omega) hs1 (fun t' ht' => ?_) (tbP_cong (I := I2) (g1 195 (by decide) (by decide)) (g1 196 (by decide) (by decide)) (fun s _ t' _ => rfl) a3) (fun I4 k1 k2 => ?_)
          · unfold dnS
            rw [ht', decide_eq_false (Nat.lt_irrefl i), decide_eq_false (Nat.lt_irrefl q), Bool.and_false, Bool.or_false]
          · refine ihm (q + 1) (by omega) I4 ⟨fun a ha => ?_, fun j hj => ?_, tbP_cong (I := I4) rfl rfl (fun s hs t' ht' => by rw [dnS_step]) k2, fun s hs p hp => ?_, fun p hp => ?_⟩ ?_
            · rw [k1 a (by omega) (by omega), g1 a (by omega) (by omega)]; exact a1 a ha
            · rw [k1 194 (by decide) (by decide), g2 j (by omega)]; exact a2 j hj
            · rw [k1 197 (by decide) (by decide)]
              by_cases c : s = q ∧ p = i
              · obtain ⟨rfl, rfl⟩ := c
                rw [g4, if_pos (show p < w.v.n by omega), dnS_step, decide_eq_true rfl, decide_eq_true rfl, hs1]
                congr 2
                by_cases c2 : 0 < w.v.lim s p
                · rw [if_pos c2, if_pos ⟨by simp, c2⟩]
                · rw [if_neg c2, if_neg (fun z => c2 z.2)]
              · rw [g3 _ (by omega), a4 s hs p hp, dnS_step]
                have : (decide (s = q) && decide (p = i)) = false := by
                  rw [Bool.and_eq_false_iff, decide_eq_false_iff_not, decide_eq_false_iff_not]
                  by_cases c1 : s = q
                  · exact Or.inr (fun z => c ⟨c1, z⟩)
                  · exact Or.inl c1
                rw [this, Bool.or_false]
            · rw [k1 194 (by decide) (by decide), g2 _ (by omega)]; exact a5 p hp
            · rw [k1 194 (by decide) (by decide), g5, e194]
              rcases (by omega : q = 0 ∨ q = 1) with rfl | rfl
              · rw [hs1]
                show nI (hc false false) ||| nI 1 = nI (hc true (false))
                decide
              · rw [hs1]
                cases saS w d (stp w d) 0 i <;> decide
        refine v_M_oneDay_286 ?_
        cases hsi : w.si i with
        | true =>
          have g := leave q I2 (by omega) S2' (fun s s1 s2 => by
            unfold saS
            rw [hsi]
            simp) e194
          rw [hsi] at e16
          simp (disch := first | omega | assumption) only [n_lit, n_gLt, n_gLe, n_gEq, n_gEq2, n_gLe2, n_gLt2, n_m1, n_add, n_mul, n_lt, n_le, n_eq, n_cl, n_in, n_rem, n_mlt, n_mle, n_ltm, n_lem, n_eqm, n_meq, n_bit, n_shl, n_b0, n_b1, n_sub, n_inT, nT, nF, lT, lF, eT, eF, not_false_eq_true, not_true_eq_false, sI_at, sI_c, sI_j, aI_at, aI_c, sL_at, sL_c, sL_j, true_and, and_true, not_true_eq_false, not_false_eq_true, forall_const, true_implies, false_implies, implies_true, if_true, if_false, ite_true, ite_false, Bool.not_eq_true, Bool.not_eq_false, Bool.true_eq_false, Bool.false_eq_true, false_and, and_false, or_true, true_or, false_or, or_false, e16, Bool.toNat_true]
          exact g
        | false =>
          rw [hsi] at e16
          rw [hsi, Bool.not_false, Bool.true_and] at hsa
          simp (disch := first | omega | assumption) only [n_lit, n_gLt, n_gLe, n_gEq, n_gEq2, n_gLe2, n_gLt2, n_m1, n_add, n_mul, n_lt, n_le, n_eq, n_cl, n_in, n_rem, n_mlt, n_mle, n_ltm, n_lem, n_eqm, n_meq, n_bit, n_shl, n_b0, n_b1, n_sub, n_inT, nT, nF, lT, lF, eT, eF, not_false_eq_true, not_true_eq_false, sI_at, sI_c, sI_j, aI_at, aI_c, sL_at, sL_c, sL_j, true_and, and_true, not_true_eq_false, not_false_eq_true, forall_const, true_implies, false_implies, implies_true, if_true, if_false, ite_true, ite_false, Bool.not_eq_true, Bool.not_eq_false, Bool.true_eq_false, Bool.false_eq_true, false_and, and_false, or_true, true_or, false_or, or_false, e16, Bool.toNat_false]
          refine cm_kindOf H2 (by omega) ?_
          cases hha : haS w d (stp w d) q i with
          | false =>
            have g := skip (by rw [hsa, hha, Bool.false_and])
            rw [hha] at eb
            by_cases c5 : w.v.kd i = 5
            · simp (disch := first | omega | assumption) only [n_lit, n_gLt, n_gLe, n_gEq, n_gEq2, n_gLe2, n_gLt2, n_m1, n_add, n_mul, n_lt, n_le, n_eq, n_cl, n_in, n_rem, n_mlt, n_mle, n_ltm, n_lem, n_eqm, n_meq, n_bit, n_shl, n_b0, n_b1, n_sub, n_inT, nT, nF, lT, lF, eT, eF, not_false_eq_true, not_true_eq_false, sI_at, sI_c, sI_j, aI_at, aI_c, sL_at, sL_c, sL_j, true_and, and_true, not_true_eq_false, not_false_eq_true, forall_const, true_implies, false_implies, implies_true, if_true, if_false, ite_true, ite_false, Bool.not_eq_true, Bool.not_eq_false, Bool.true_eq_false, Bool.false_eq_true, false_and, and_false, or_true, true_or, false_or, or_false, c5, e190, eb, Bool.toNat_false]
              exact g
            · have e5 : ¬ nI (w.v.kd i) = nI 5 := by rw [n_eq (by omega) (by omega)]; exact c5
              simp (disch := first | omega | assumption) only [n_lit, n_gLt, n_gLe, n_gEq, n_gEq2, n_gLe2, n_gLt2, n_m1, n_add, n_mul, n_lt, n_le, n_eq, n_cl, n_in, n_rem, n_mlt, n_mle, n_ltm, n_lem, n_eqm, n_meq, n_bit, n_shl, n_b0, n_b1, n_sub, n_inT, nT, nF, lT, lF, eT, eF, not_false_eq_true, not_true_eq_false, sI_at, sI_c, sI_j, aI_at, aI_c, sL_at, sL_c, sL_j, true_and, and_true, not_true_eq_false, not_false_eq_true, forall_const, true_implies, false_implies, implies_true, if_true, if_false, ite_true, ite_false, Bool.not_eq_true, Bool.not_eq_false, Bool.true_eq_false, Bool.false_eq_true, false_and, and_false, or_true, true_or, false_or, or_false, e5, e11, e190, eb, Bool.toNat_false]
              exact g
          | true =>
            rw [hha] at eb
            rw [hha, Bool.true_and] at hsa
            by_cases l0 : w.v.lim q i = 0
            · have c5 : w.v.kd i ≠ 5 := fun z => by rw [elim5 z] at l0; cases l0
              have e5 : ¬ nI (w.v.kd i) = nI 5 := by rw [n_eq (by omega) (by omega)]; exact c5
              have et := etr c5
              rw [l0] at et
              have g := said (by rw [hsa, l0]; rfl) (sI I2 194 (16 * d + i) (Z ||| nI (2 ^ q))) (fun a a1 _ => sI_c a1) (fun j hj => sI_j hj) (fun j hj => by rw [sI_c (by decide)]) (by rw [sI_c (by decide), e197, l0]; rfl) (by rw [sI_at, hZ])
              simp (disch := first | omega | assumption) only [n_lit, n_gLt, n_gLe, n_gEq, n_gEq2, n_gLe2, n_gLt2, n_m1, n_add, n_mul, n_lt, n_le, n_eq, n_cl, n_in, n_rem, n_mlt, n_mle, n_ltm, n_lem, n_eqm, n_meq, n_bit, n_shl, n_b0, n_b1, n_sub, n_inT, nT, nF, lT, lF, eT, eF, not_false_eq_true, not_true_eq_false, sI_at, sI_c, sI_j, aI_at, aI_c, sL_at, sL_c, sL_j, true_and, and_true, not_true_eq_false, not_false_eq_true, forall_const, true_implies, false_implies, implies_true, if_true, if_false, ite_true, ite_false, Bool.not_eq_true, Bool.not_eq_false, Bool.true_eq_false, Bool.false_eq_true, false_and, and_false, or_true, true_or, false_or, or_false, e5, e11, e190, eb, Bool.toNat_true, et, hZ]
              exact g
            · by_cases l1 : (stp w d).cn q i < w.v.lim q i
              · have g := said (by rw [hsa, decide_eq_true l1, Bool.or_true]) (sI (sI I2 197 (2 * i + q) (nI ((stp w d).cn q i + 1))) 194 (16 * d + i) (Z ||| nI (2 ^ q))) (fun a a1 a2 => by rw [sI_c a1, sI_c a2]) (fun j hj => by rw [sI_j hj, sI_c (by decide)]) (fun j hj => by rw [sI_c (by decide), sI_j hj]) (by rw [sI_c (by decide), sI_at, if_pos (by omega)]) (by rw [sI_at, hZ])
                by_cases c5 : w.v.kd i = 5
                · have e6 := elim5 c5
                  rw [e6] at l1
                  simp (disch := first | omega | assumption) only [n_lit, n_gLt, n_gLe, n_gEq, n_gEq2, n_gLe2, n_gLt2, n_m1, n_add, n_mul, n_lt, n_le, n_eq, n_cl, n_in, n_rem, n_mlt, n_mle, n_ltm, n_lem, n_eqm, n_meq, n_bit, n_shl, n_b0, n_b1, n_sub, n_inT, nT, nF, lT, lF, eT, eF, not_false_eq_true, not_true_eq_false, sI_at, sI_c, sI_j, aI_at, aI_c, sL_at, sL_c, sL_j, true_and, and_true, not_true_eq_false, not_false_eq_true, forall_const, true_implies, false_implies, implies_true, if_true, if_false, ite_true, ite_false, Bool.not_eq_true, Bool.not_eq_false, Bool.true_eq_false, Bool.false_eq_true, false_and, and_false, or_true, true_or, false_or, or_false, c5, e190, eb, Bool.toNat_true, e197, hZ]
                  exact g
                · have e5 : ¬ nI (w.v.kd i) = nI 5 := by rw [n_eq (by omega) (by omega)]; exact c5
                  have et := etr c5
                  simp (disch := first | omega | assumption) only [n_lit, n_gLt, n_gLe, n_gEq, n_gEq2, n_gLe2, n_gLt2, n_m1, n_add, n_mul, n_lt, n_le, n_eq, n_cl, n_in, n_rem, n_mlt, n_mle, n_ltm, n_lem, n_eqm, n_meq, n_bit, n_shl, n_b0, n_b1, n_sub, n_inT, nT, nF, lT, lF, eT, eF, not_false_eq_true, not_true_eq_false, sI_at, sI_c, sI_j, aI_at, aI_c, sL_at, sL_c, sL_j, true_and, and_true, not_true_eq_false, not_false_eq_true, forall_const, true_implies, false_implies, implies_true, if_true, if_false, ite_true, ite_false, Bool.not_eq_true, Bool.not_eq_false, Bool.true_eq_false, Bool.false_eq_true, false_and, and_false, or_true, true_or, false_or, or_false, e5, e11, e190, eb, Bool.toNat_true, et, e197, hZ]
                  exact g
              · have g := skip (by rw [hsa, decide_eq_false l0, decide_eq_false l1]; rfl)
                by_cases c5 : w.v.kd i = 5
                · have e6 := elim5 c5
                  rw [e6] at l1
                  simp (disch := first | omega | assumption) only [n_lit, n_gLt, n_gLe, n_gEq, n_gEq2, n_gLe2, n_gLt2, n_m1, n_add, n_mul, n_lt, n_le, n_eq, n_cl, n_in, n_rem, n_mlt, n_mle, n_ltm, n_lem, n_eqm, n_meq, n_bit, n_shl, n_b0, n_b1, n_sub, n_inT, nT, nF, lT, lF, eT, eF, not_false_eq_true, not_true_eq_false, sI_at, sI_c, sI_j, aI_at, aI_c, sL_at, sL_c, sL_j, true_and, and_true, not_true_eq_false, not_false_eq_true, forall_const, true_implies, false_implies, implies_true, if_true, if_false, ite_true, ite_false, Bool.not_eq_true, Bool.not_eq_false, Bool.true_eq_false, Bool.false_eq_true, false_and, and_false, or_true, true_or, false_or, or_false, c5, e190, eb, Bool.toNat_true, e197]
                  exact g
                · have e5 : ¬ nI (w.v.kd i) = nI 5 := by rw [n_eq (by omega) (by omega)]; exact c5
                  have et := etr c5
                  simp (disch := first | omega | assumption) only [n_lit, n_gLt, n_gLe, n_gEq, n_gEq2, n_gLe2, n_gLt2, n_m1, n_add, n_mul, n_lt, n_le, n_eq, n_cl, n_in, n_rem, n_mlt, n_mle, n_ltm, n_lem, n_eqm, n_meq, n_bit, n_shl, n_b0, n_b1, n_sub, n_inT, nT, nF, lT, lF, eT, eF, not_false_eq_true, not_true_eq_false, sI_at, sI_c, sI_j, aI_at, aI_c, sL_at, sL_c, sL_j, true_and, and_true, not_true_eq_false, not_false_eq_true, forall_const, true_implies, false_implies, implies_true, if_true, if_false, ite_true, ite_false, Bool.not_eq_true, Bool.not_eq_false, Bool.true_eq_false, Bool.false_eq_true, false_and, and_false, or_true, true_or, false_or, or_false, e5, e11, e190, eb, Bool.toNat_true, et, e197]
                  exact g
    refine v_M_oneDay_261 (cm_people H1 ?_)
    simp (disch := first | omega | assumption) only [n_lit, n_gLt, n_gLe, n_gEq, n_gEq2, n_gLe2, n_gLt2, n_m1, n_add, n_mul, n_lt, n_le, n_eq, n_cl, n_in, n_rem, n_mlt, n_mle, n_ltm, n_lem, n_eqm, n_meq, n_bit, n_shl, n_b0, n_b1, n_sub, n_inT, nT, nF, lT, lF, eT, eF, not_false_eq_true, not_true_eq_false, sI_at, sI_c, sI_j, aI_at, aI_c, sL_at, sL_c, sL_j, true_and, and_true, not_true_eq_false, not_false_eq_true, forall_const, true_implies, false_implies, implies_true, if_true, if_false, ite_true, ite_false, Bool.not_eq_true, Bool.not_eq_false, Bool.true_eq_false, Bool.false_eq_true, false_and, and_false, or_true, true_or, false_or, or_false]
    obtain ⟨a1, a2, a3, a4, a5⟩ := S1
    refine sides 2 0 (by omega) _ ⟨fun a ha => ?_, fun j hj => ?_, tbP_cong (I := I1) (sI_c (by decide)) (sI_c (by decide)) (fun _ _ _ _ => rfl) a3, fun s hs p hp => ?_, fun p hp => ?_⟩ (sI_at _ _ _ _)
    · rw [sI_c (by omega)]; exact a1 a ha
    · rw [sI_j (by omega)]; exact a2 j hj
    · rw [sI_c (by decide)]; exact a4 s hs p hp
    · rw [sI_j (by omega)]; exact a5 p hp
