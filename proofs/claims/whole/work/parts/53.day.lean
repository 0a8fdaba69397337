/-! A DAY of the reference: what each one hears and has -/
/-- the first day on which any comes to one; by whom -/
def hon (w : Wd) (s p N : Nat) : Option Nat := fstN (fun e => decide (0 < camS w e (stp w e) s p)) N 0
def honI : Option Nat → Int32
  | none => nM
  | some e => nI e
def hbyI (w : Wd) (s p : Nat) : Option Nat → Int32
  | none => nM
  | some e => if 0 < (stp w e).du s 1 p then nI ((stp w e).bf s 1 p) else nM
theorem fstN_succ {f : Nat → Bool} {N : Nat} : fstN f (N + 1) 0 = (match fstN f N 0 with
    | some e => some e
    | none => if f N = true then some N else none) := by
  cases h : fstN f N 0 with
  | some e =>
    obtain ⟨⟨h1, h2⟩, h3, h4⟩ := fstN_some h
    exact fstN_at (Nat.zero_le _) (by omega) (fun j _ j2 => h4 j (Nat.zero_le _) j2) h3
  | none =>
    have h0 := fstN_none.mp h
    dsimp only
    by_cases c : f N = true
    · rw [if_pos c]
      exact fstN_at (Nat.zero_le _) (by omega) (fun j _ j2 => h0 j (Nat.zero_le _) (by omega)) c
    · rw [if_neg c]
      refine fstN_none.mpr (fun i _ i2 => ?_)
      by_cases e : i = N
      · subst e; exact Bool.eq_false_iff.mpr c
      · exact h0 i (Nat.zero_le _) (by omega)
/-- what is to come, ahead of a day -/
def cmP (w : Wd) (d : Nat) (I : MI) : Prop := ∀ j, j < 8 → ∀ s, s < 2 → ∀ p, p < 16 → I 195 (32 * ((d + j) % 8) + 2 * p + s) = nI ((stp w d).du s (j + 1) p) ∧ I 196 (32 * ((d + j) % 8) + 2 * p + s) = nI ((stp w d).bf s (j + 1) p)
theorem cm_hears {w : Wd} {d s p : Nat} (hd : d ≤ 200) (hs : s < 2) (hp : p < 16) {b : Bool} {I : MI} {L : ML} {K : Bool → MI → ML → Prop} (hc : camS w d (stp w d) s p ≤ 700) (e8 : I 198 (2 * p + s) = honI (hon w s p d)) (e9 : I 199 (2 * p + s) = hbyI w s p (hon w s p d)) (e6 : I 196 (32 * (d % 8) + 2 * p + s) = nI ((stp w d).bf s 1 p)) (hdu : (stp w d).du s 1 p ≤ 700) (hK : ∀ I', (∀ a, a ≠ 198 → a ≠ 199 → I' a = I a) → (∀ a j, a = 198 ∨ a = 199 → j ≠ 2 * p + s → I' a j = I a j) → I' 198 (2 * p + s) = honI (hon w s p (d + 1)) → I' 199 (2 * p + s) = hbyI w s p (hon w s p (d + 1)) → K b I' L) : CV m_M_hears [vr 22 186, vi (nI p), vi (nI d), vi (nI s), vi (nI (camS w d (stp w d) s p)), vi (nI ((stp w d).du s 1 p))] b I L K := by
  have hsu : hon w s p (d + 1) = (match hon w s p d with
    | some e => some e
    | none => if decide (0 < camS w d (stp w d) s p) = true then some d else none) := fstN_succ
  refine v_M_hears_0 ?_
  cases ho : hon w s p d with
  | some e =>
    rw [ho] at e8 e9 hsu
    have h1 : hon w s p (d + 1) = some e := hsu
    have he : e < d := by
      obtain ⟨⟨_, h2⟩, _⟩ := fstN_some ho
      omega
    have g := hK I (fun _ _ _ => rfl) (fun _ _ _ _ => rfl) (by rw [h1]; exact e8) (by rw [h1]; exact e9)
    have e8' : I 198 (2 * p + s) = nI e := e8
    by_cases c : camS w d (stp w d) s p = 0
    · simp (disch := first | omega | assumption) only [n_lit, n_gLt, n_gLe, n_gEq, n_gEq2, n_gLe2, n_gLt2, n_m1, n_add, n_mul, n_lt, n_le, n_eq, n_cl, n_in, n_rem, n_mlt, n_mle, n_ltm, n_lem, n_eqm, n_meq, n_bit, n_shl, n_b0, n_b1, n_sub, n_inT, nT, nF, lT, lF, eT, eF, not_false_eq_true, not_true_eq_false, sI_at, sI_c, sI_j, aI_at, aI_c, sL_at, sL_c, sL_j, true_and, and_true, not_true_eq_false, not_false_eq_true, forall_const, true_implies, false_implies, implies_true, if_true, if_false, ite_true, ite_false, Bool.not_eq_true, Bool.not_eq_false, Bool.true_eq_false, Bool.false_eq_true, false_and, and_false, or_true, true_or, false_or, or_false, c]
      exact g
    · simp (disch := first | omega | assumption) only [n_lit, n_gLt, n_gLe, n_gEq, n_gEq2, n_gLe2, n_gLt2, n_m1, n_add, n_mul, n_lt, n_le, n_eq, n_cl, n_in, n_rem, n_mlt, n_mle, n_ltm, n_lem, n_eqm, n_meq, n_bit, n_shl, n_b0, n_b1, n_sub, n_inT, nT, nF, lT, lF, eT, eF, not_false_eq_true, not_true_eq_false, sI_at, sI_c, sI_j, aI_at, aI_c, sL_at, sL_c, sL_j, true_and, and_true, not_true_eq_false, not_false_eq_true, forall_const, true_implies, false_implies, implies_true, if_true, if_false, ite_true, ite_false, Bool.not_eq_true, Bool.not_eq_false, Bool.true_eq_false, Bool.false_eq_true, false_and, and_false, or_true, true_or, false_or, or_false, e8']
      exact g
  | none =>
    rw [ho] at e8 e9 hsu
    have e8' : I 198 (2 * p + s) = nM := e8
    have hM := n_negM
    by_cases c : camS w d (stp w d) s p = 0
    · have h1 : hon w s p (d + 1) = none := by
        rw [hsu]
        dsimp only
        rw [if_neg (by rw [decide_eq_true_iff]; omega)]
      have g := hK I (fun _ _ _ => rfl) (fun _ _ _ _ => rfl) (by rw [h1]; exact e8) (by rw [h1]; exact e9)
      simp (disch := first | omega | assumption) only [n_lit, n_gLt, n_gLe, n_gEq, n_gEq2, n_gLe2, n_gLt2, n_m1, n_add, n_mul, n_lt, n_le, n_eq, n_cl, n_in, n_rem, n_mlt, n_mle, n_ltm, n_lem, n_eqm, n_meq, n_bit, n_shl, n_b0, n_b1, n_sub, n_inT, nT, nF, lT, lF, eT, eF, not_false_eq_true, not_true_eq_false, sI_at, sI_c, sI_j, aI_at, aI_c, sL_at, sL_c, sL_j, true_and, and_true, not_true_eq_false, not_false_eq_true, forall_const, true_implies, false_implies, implies_true, if_true, if_false, ite_true, ite_false, Bool.not_eq_true, Bool.not_eq_false, Bool.true_eq_false, Bool.false_eq_true, false_and, and_false, or_true, true_or, false_or, or_false, c]
      exact g
    · have h1 : hon w s p (d + 1) = some d := by
        rw [hsu]
        dsimp only
        rw [if_pos (by rw [decide_eq_true_iff]; omega)]
      rw [h1] at hK
      by_cases c2 : 0 < (stp w d).du s 1 p
      · have e9' : hbyI w s p (some d) = nI ((stp w d).bf s 1 p) := by
          unfold hbyI
          dsimp only
          rw [if_pos c2]
        rw [e9'] at hK
        simp (disch := first | omega | assumption) only [n_lit, n_gLt, n_gLe, n_gEq, n_gEq2, n_gLe2, n_gLt2, n_m1, n_add, n_mul, n_lt, n_le, n_eq, n_cl, n_in, n_rem, n_mlt, n_mle, n_ltm, n_lem, n_eqm, n_meq, n_bit, n_shl, n_b0, n_b1, n_sub, n_inT, nT, nF, lT, lF, eT, eF, not_false_eq_true, not_true_eq_false, sI_at, sI_c, sI_j, aI_at, aI_c, sL_at, sL_c, sL_j, true_and, and_true, not_true_eq_false, not_false_eq_true, forall_const, true_implies, false_implies, implies_true, if_true, if_false, ite_true, ite_false, Bool.not_eq_true, Bool.not_eq_false, Bool.true_eq_false, Bool.false_eq_true, false_and, and_false, or_true, true_or, false_or, or_false, e8', e6]
        refine hK _ (fun a a1 a2 => by rw [sI_c a2, sI_c a1]) (fun a j ha hj => ?_) (by rw [sI_c (by decide), sI_at]; rfl) (sI_at _ _ _ _)
        rcases ha with rfl | rfl
        · rw [sI_c (by decide), sI_j hj]
        · rw [sI_j hj, sI_c (by decide)]
      · have e9' : hbyI w s p (some d) = nM := by
          unfold hbyI
          dsimp only
          rw [if_neg c2]
        rw [e9'] at hK
        simp (disch := first | omega | assumption) only [n_lit, n_gLt, n_gLe, n_gEq, n_gEq2, n_gLe2, n_gLt2, n_m1, n_add, n_mul, n_lt, n_le, n_eq, n_cl, n_in, n_rem, n_mlt, n_mle, n_ltm, n_lem, n_eqm, n_meq, n_bit, n_shl, n_b0, n_b1, n_sub, n_inT, nT, nF, lT, lF, eT, eF, not_false_eq_true, not_true_eq_false, sI_at, sI_c, sI_j, aI_at, aI_c, sL_at, sL_c, sL_j, true_and, and_true, not_true_eq_false, not_false_eq_true, forall_const, true_implies, false_implies, implies_true, if_true, if_false, ite_true, ite_false, Bool.not_eq_true, Bool.not_eq_false, Bool.true_eq_false, Bool.false_eq_true, false_and, and_false, or_true, true_or, false_or, or_false, e8']
        refine hK _ (fun a a1 a2 => by rw [sI_c a2, sI_c a1]) (fun a j ha hj => ?_) (by rw [sI_c (by decide), sI_at]; rfl) (sI_at _ _ _ _)
        rcases ha with rfl | rfl
        · rw [sI_c (by decide), sI_j hj]
        · rw [sI_j hj, sI_c (by decide)]
/-- who has heard, of the first persons a day more -/
def heaP (w : Wd) (d i : Nat) (I : MI) : Prop := ∀ s, s < 2 → ∀ p, p < w.v.n → I 198 (2 * p + s) = honI (hon w s p (if p < i then d + 1 else d)) ∧ I 199 (2 * p + s) = hbyI w s p (hon w s p (if p < i then d + 1 else d))
/-- a day's numbers of one person -/
def perM (w : Wd) (d p : Nat) (I : MI) : Prop := I 190 (16 * d + p) = nI (hc (haS w d (stp w d) 0 p) (haS w d (stp w d) 1 p)) ∧ I 191 (16 * d + p) = nI (hrdS w d (stp w d) 0 p) ∧ I 192 (16 * d + p) = nI (hrdS w d (stp w d) 1 p) ∧ I 193 (16 * d + p) = zI (tkS w d (stp w d) p).2.2
theorem camM_le {v : Vil} {t : Tel} {x : Wi} {o : Nat} {w : Wd} {I : MI} {L : ML} (h : WM v t x o w I L) {s : Nat} (hs : s < 2) (d p : Nat) : camS w d (stp w d) s p ≤ 700 ∧ (stp w d).du s 1 p ≤ 700 := by
  obtain ⟨⟨ew, ok, -, okt, -⟩, -⟩ := h
  have h1 : w.am s d p ≤ 300 := by
    rw [ew]
    have := amW_out (t := t) (x := x) s d p
    have := Tel.amt_le okt.1 s d p
    show amW t x s d p ≤ 300
    omega
  have h2 : (stp w d).du s 1 p ≤ 369 := by
    cases d with
    | zero => exact Nat.zero_le _
    | succ d =>
      show (stt w d).du s 1 p ≤ 369
      rw [du_T]
      exact dueT_le ok s d 1 p (Nat.le_refl _)
  unfold camS
  omega
theorem cm_dayA {v : Vil} {t : Tel} {x : Wi} {o : Nat} {w : Wd} {d : Nat} {b : Bool} {I : MI} {L : ML} {K : Bool → MI → ML → Prop} (h : WM v t x o w I L) (hd : d ≤ 200) (hcm : cmP w d I) (hpr : 0 < d → ∀ p, p < w.v.n → I 190 (16 * (d - 1) + p) = nI (hc ((stp w d).ha 0 p) ((stp w d).ha 1 p)) ∧ I 193 (16 * (d - 1) + p) = zI ((stp w d).su p)) (hK : ∀ I', (∀ a, a < 190 ∨ (193 < a ∧ a < 198) ∨ 199 < a → I' a = I a) → (∀ a j, a = 190 ∨ a = 191 ∨ a = 192 ∨ a = 193 → j < 16 * d ∨ 16 * d + 16 ≤ j → I' a j = I a j) → heaP w d w.v.n I' → (∀ p, p < w.v.n → perM w d p I') → SW m_M_oneDay 216 [vr 22 186, vi (nI d), vi (nI 0), un, un, un, un] [] b I' L (kV K)) : ∀ n i, i + n = w.v.n → ∀ I1 : MI, (∀ a, a < 190 ∨ (193 < a ∧ a < 198) ∨ 199 < a → I1 a = I a) → (∀ a j, a = 190 ∨ a = 191 ∨ a = 192 ∨ a = 193 → j < 16 * d ∨ 16 * d + 16 ≤ j → I1 a j = I a j) → heaP w d i I1 → (∀ p, p < i → perM w d p I1) → SW m_M_oneDay 2 [vr 22 186, vi (nI d), vi (nI i), un, un, un, un] [] b I1 L (kV K) := by
  intro n
  have H := h
  have okw := h.1.2.1
  have hn := okw.1.2
  induction n with
  | zero =>
    intro i hi I1 f1 f2 hh hp
    obtain rfl : i = w.v.n := by omega
    have H1 : WM v t x o w I1 L := H.fr (fun j _ => by rw [f1 186 (by omega)]) (f1 187 (by omega)) rfl
    refine v_M_oneDay_2 (cm_people H1 ?_)
    simp (disch := first | omega | assumption) only [n_lit, n_gLt, n_gLe, n_gEq, n_gEq2, n_gLe2, n_gLt2, n_m1, n_add, n_mul, n_lt, n_le, n_eq, n_cl, n_in, n_rem, n_mlt, n_mle, n_ltm, n_lem, n_eqm, n_meq, n_bit, n_shl, n_b0, n_b1, n_sub, n_inT, nT, nF, lT, lF, eT, eF, not_false_eq_true, not_true_eq_false, sI_at, sI_c, sI_j, aI_at, aI_c, sL_at, sL_c, sL_j, true_and, and_true, not_true_eq_false, not_false_eq_true, forall_const, true_implies, false_implies, implies_true, if_true, if_false, ite_true, ite_false, Bool.not_eq_true, Bool.not_eq_false, Bool.true_eq_false, Bool.false_eq_true, false_and, and_false, or_true, true_or, false_or, or_false]
    exact hK I1 f1 f2 hh hp
  | succ n ih =>
    intro i hi I1 f1 f2 hh hp
    have H1 : WM v t x o w I1 L := H.fr (fun j _ => by rw [f1 186 (by omega)]) (f1 187 (by omega)) rfl
    obtain ⟨q0, q0'⟩ := camM_le H (s := 0) (by decide) d i
    obtain ⟨q1, q1'⟩ := camM_le H (s := 1) (by decide) d i
    have ec0 : I1 195 (32 * (d % 8) + 2 * i) = nI ((stp w d).du 0 1 i) := by
      rw [f1 195 (by omega)]
      exact (hcm 0 (by decide) 0 (by decide) i (by omega)).1
    have ec1 : I1 195 (32 * (d % 8) + 2 * i + 1) = nI ((stp w d).du 1 1 i) := by
      rw [f1 195 (by omega)]
      exact (hcm 0 (by decide) 1 (by decide) i (by omega)).1
    have eb0 : I1 196 (32 * (d % 8) + 2 * i + 0) = nI ((stp w d).bf 0 1 i) := by
      rw [f1 196 (by omega)]
      exact (hcm 0 (by decide) 0 (by decide) i (by omega)).2
    have eb1 : I1 196 (32 * (d % 8) + 2 * i + 1) = nI ((stp w d).bf 1 1 i) := by
      rw [f1 196 (by omega)]
      exact (hcm 0 (by decide) 1 (by decide) i (by omega)).2
    have s0 : (stp w d).du 0 1 i + w.am 0 d i = camS w d (stp w d) 0 i := by unfold camS; omega
    have s1 : (stp w d).du 1 1 i + w.am 1 d i = camS w d (stp w d) 1 i := by unfold camS; omega
    have hdb := (okw.2.2.2.2.2.1 i (by omega)).2.2
    have hmo := most_stp w i d
    -- behind the hearing
    have fin : ∀ I2 : MI, (∀ a, a ≠ 198 → a ≠ 199 → I2 a = I1 a) → heaP w d (i + 1) I2 → CI m_M_takesIn [vr 22 186, vi (nI i), vi (nI (hc ((stp w d).ha 0 i) ((stp w d).ha 1 i))), vi (nI (hrdS w d (stp w d) 0 i)), vi (nI (hrdS w d (stp w d) 1 i)), vi (nI (16 * d + i))] b (sI (sI (sI I2 191 (16 * d + i) (nI (hrdS w d (stp w d) 0 i))) 192 (16 * d + i) (nI (hrdS w d (stp w d) 1 i))) 193 (16 * d + i) (zI ((stp w d).su i))) L (fun v_8 b_8 I_8 L_8 => SW m_M_oneDay 2 [vr 22 186, vi (nI d), vi (nI (i + 1)), un, un, un, un] [] b_8 (sI I_8 190 (16 * d + i) v_8) L_8 (kV K)) := by
      intro I2 g1 g2
      have hr0 : hrdS w d (stp w d) 0 i ≤ 700 := by unfold hrdS; split <;> omega
      have hr1 : hrdS w d (stp w d) 1 i ≤ 700 := by unfold hrdS; split <;> omega
      refine cm_takesIn (v := v) (t := t) (x := x) (o := o) (w := w) (h0 := (stp w d).ha 0 i) (h1 := (stp w d).ha 1 i) (z := (stp w d).su i) (H1.fr (fun j _ => by rw [sI_c (by decide), sI_c (by decide), sI_c (by decide), g1 186 (by decide) (by decide)]) (by rw [sI_c (by decide), sI_c (by decide), sI_c (by decide), g1 187 (by decide) (by decide)]) rfl) (by omega) hr0 hr1 (by omega) hmo.1 (sI_at _ _ _ _) ?_
      have ft : ∀ a, a < 190 ∨ (193 < a ∧ a < 198) ∨ 199 < a → I2 a = I a := fun a ha => (g1 a (by omega) (by omega)).trans (f1 a ha)
      refine ih (i + 1) (by omega) _ (fun a ha => ?_) (fun a j ha hj => ?_) ?_ (fun p hp' => ?_)
      · rw [sI_c (by omega), sI_c (by omega), sI_c (by omega), sI_c (by omega), sI_c (by omega)]
        exact ft a ha
      · rw [← f2 a j ha hj, ← g1 a (by omega) (by omega)]
        rcases ha with rfl | rfl | rfl | rfl
        · rw [sI_j (by omega), sI_c (by decide), sI_c (by decide), sI_c (by decide), sI_c (by decide)]
        · rw [sI_c (by decide), sI_c (by decide), sI_c (by decide), sI_c (by decide), sI_j (by omega)]
        · rw [sI_c (by decide), sI_c (by decide), sI_c (by decide), sI_j (by omega), sI_c (by decide)]
        · rw [sI_c (by decide), sI_j (by omega), sI_j (by omega), sI_c (by decide), sI_c (by decide)]
      · intro s hs p hp'
        rw [sI_c (by decide), sI_c (by decide), sI_c (by decide), sI_c (by decide), sI_c (by decide), sI_c (by decide), sI_c (by decide), sI_c (by decide), sI_c (by decide), sI_c (by decide)]
        exact g2 s hs p hp'
      · unfold perM
        by_cases e : p = i
        · subst e
          refine ⟨?_, ?_, ?_, ?_⟩
          · rw [sI_at]; rfl
          · rw [sI_c (by decide), sI_c (by decide), sI_c (by decide), sI_c (by decide), sI_at]
          · rw [sI_c (by decide), sI_c (by decide), sI_c (by decide), sI_at]
          · rw [sI_c (by decide), sI_at]; rfl
        · have := hp p (by omega)
          unfold perM at this
          rw [← g1 190 (by decide) (by decide), ← g1 191 (by decide) (by decide), ← g1 192 (by decide) (by decide), ← g1 193 (by decide) (by decide)] at this
          rw [sI_j (by omega), sI_c (by decide), sI_c (by decide), sI_c (by decide), sI_c (by decide)]
          rw [sI_c (by decide), sI_c (by decide), sI_c (by decide), sI_c (by decide), sI_j (by omega)]
          rw [sI_c (by decide), sI_c (by decide), sI_c (by decide), sI_j (by omega), sI_c (by decide)]
          rw [sI_c (by decide), sI_j (by omega), sI_j (by omega), sI_c (by decide), sI_c (by decide)]
          exact this
    -- the two hearings
    have hea2 : ∀ K' : Bool → MI → ML → Prop, (∀ I2, (∀ a, a ≠ 198 → a ≠ 199 → I2 a = I1 a) → heaP w d (i + 1) I2 → K' b I2 L) → CV m_M_hears [vr 22 186, vi (nI i), vi (nI d), vi (nI 0), vi (nI (camS w d (stp w d) 0 i)), vi (nI ((stp w d).du 0 1 i))] b I1 L (fun b2 I2 L2 => CV m_M_hears [vr 22 186, vi (nI i), vi (nI d), vi (nI 1), vi (nI (camS w d (stp w d) 1 i)), vi (I2 195 (32 * (d % 8) + 2 * i + 1))] b2 I2 L2 K') := by
      intro K' k
      obtain ⟨h80, h90⟩ := hh 0 (by decide) i (by omega)
      obtain ⟨h81, h91⟩ := hh 1 (by decide) i (by omega)
      rw [if_neg (Nat.lt_irrefl i)] at h80 h90 h81 h91
      refine cm_hears (w := w) (s := 0) hd (by decide) (by omega) q0 h80 h90 eb0 q0' (fun I2 g1 g2 g3 g4 => ?_)
      have e195 : I2 195 (32 * (d % 8) + 2 * i + 1) = nI ((stp w d).du 1 1 i) := by rw [g1 195 (by decide) (by decide)]; exact ec1
      rw [e195]
      refine cm_hears (w := w) (s := 1) hd (by decide) (by omega) q1 (by rw [g2 _ _ (by decide) (by omega)]; exact h81) (by rw [g2 _ _ (by decide) (by omega)]; exact h91) (by rw [g1 196 (by decide) (by decide)]; exact eb1) q1' (fun I3 k1 k2 k3 k4 => ?_)
      refine k I3 (fun a a1 a2 => (k1 a a1 a2).trans (g1 a a1 a2)) (fun s hs p hp' => ?_)
      by_cases e : p = i
      · subst e
        rw [if_pos (by omega)]
        rcases (by omega : s = 0 ∨ s = 1) with rfl | rfl
        · rw [k2 _ _ (by decide) (by omega), k2 _ _ (by decide) (by omega)]
          exact ⟨g3, g4⟩
        · exact ⟨k3, k4⟩
      · rw [k2 _ _ (by decide) (by omega), k2 _ _ (by decide) (by omega), g2 _ _ (by decide) (by omega), g2 _ _ (by decide) (by omega)]
        have := hh s hs p hp'
        by_cases c : p < i
        · rw [if_pos c] at this
          rw [if_pos (by omega)]
          exact this
        · rw [if_neg c] at this
          rw [if_neg (by omega)]
          exact this
    have d8 : d % 8 < 8 := Nat.mod_lt _ (by decide)
    refine v_M_oneDay_2 (cm_people H1 ?_)
    simp (disch := first | omega | assumption) only [n_lit, n_gLt, n_gLe, n_gEq, n_gEq2, n_gLe2, n_gLt2, n_m1, n_add, n_mul, n_lt, n_le, n_eq, n_cl, n_in, n_rem, n_mlt, n_mle, n_ltm, n_lem, n_eqm, n_meq, n_bit, n_shl, n_b0, n_b1, n_sub, n_inT, nT, nF, lT, lF, eT, eF, not_false_eq_true, not_true_eq_false, sI_at, sI_c, sI_j, aI_at, aI_c, sL_at, sL_c, sL_j, true_and, and_true, not_true_eq_false, not_false_eq_true, forall_const, true_implies, false_implies, implies_true, if_true, if_false, ite_true, ite_false, Bool.not_eq_true, Bool.not_eq_false, Bool.true_eq_false, Bool.false_eq_true, false_and, and_false, or_true, true_or, false_or, or_false]
    refine cm_outside (s := 0) H1 (by decide) hd (by omega) ?_
    refine cm_outside (s := 1) H1 (by decide) hd (by omega) ?_
    simp (disch := first | omega | assumption) only [n_lit, n_gLt, n_gLe, n_gEq, n_gEq2, n_gLe2, n_gLt2, n_m1, n_add, n_mul, n_lt, n_le, n_eq, n_cl, n_in, n_rem, n_mlt, n_mle, n_ltm, n_lem, n_eqm, n_meq, n_bit, n_shl, n_b0, n_b1, n_sub, n_inT, nT, nF, lT, lF, eT, eF, not_false_eq_true, not_true_eq_false, sI_at, sI_c, sI_j, aI_at, aI_c, sL_at, sL_c, sL_j, true_and, and_true, not_true_eq_false, not_false_eq_true, forall_const, true_implies, false_implies, implies_true, if_true, if_false, ite_true, ite_false, Bool.not_eq_true, Bool.not_eq_false, Bool.true_eq_false, Bool.false_eq_true, false_and, and_false, or_true, true_or, false_or, or_false, ec0, ec1, s0, s1]
    refine hea2 _ (fun I2 g1 g2 => ?_)
    have fin := fin I2 g1 g2
    have H2 : WM v t x o w I2 L := H1.fr (fun j _ => by rw [g1 186 (by decide) (by decide)]) (g1 187 (by decide) (by decide)) rfl
    have H3 : ∀ y, WM v t x o w (sI I2 191 (16 * d + i) y) L := fun y => H2.fr (fun j _ => by rw [sI_c (by decide)]) (by rw [sI_c (by decide)]) rfl
    have ep : 0 < d → I2 190 (16 * d + i - 16) = nI (hc ((stp w d).ha 0 i) ((stp w d).ha 1 i)) ∧ I2 193 (16 * d + i - 16) = zI ((stp w d).su i) := fun hd0 => by
      rw [g1 190 (by decide) (by decide), g1 193 (by decide) (by decide), f2 190 _ (by decide) (by omega), f2 193 _ (by decide) (by omega), show 16 * d + i - 16 = 16 * (d - 1) + i by omega]
      exact hpr hd0 i (by omega)
    have hz : (nI 0 : Int32) = zI 0 := rfl
    have z0 : d = 0 → nI 0 = nI (hc ((stp w d).ha 0 i) ((stp w d).ha 1 i)) ∧ nI 0 = zI ((stp w d).su i) := by rintro rfl; exact ⟨rfl, rfl⟩
    refine cm_doubtOf H2 (by omega) ?_
    have hu0 : hrdS w d (stp w d) 0 i = if camS w d (stp w d) 0 i < w.v.db i then 0 else camS w d (stp w d) 0 i := rfl
    have hu1 : hrdS w d (stp w d) 1 i = if camS w d (stp w d) 1 i < w.v.db i then 0 else camS w d (stp w d) 1 i := rfl
    rw [hu0, hu1] at fin
    by_cases c0 : camS w d (stp w d) 0 i < w.v.db i
    · rw [if_pos c0] at fin
      simp (disch := first | omega | assumption) only [n_lit, n_gLt, n_gLe, n_gEq, n_gEq2, n_gLe2, n_gLt2, n_m1, n_add, n_mul, n_lt, n_le, n_eq, n_cl, n_in, n_rem, n_mlt, n_mle, n_ltm, n_lem, n_eqm, n_meq, n_bit, n_shl, n_b0, n_b1, n_sub, n_inT, nT, nF, lT, lF, eT, eF, not_false_eq_true, not_true_eq_false, sI_at, sI_c, sI_j, aI_at, aI_c, sL_at, sL_c, sL_j, true_and, and_true, not_true_eq_false, not_false_eq_true, forall_const, true_implies, false_implies, implies_true, if_true, if_false, ite_true, ite_false, Bool.not_eq_true, Bool.not_eq_false, Bool.true_eq_false, Bool.false_eq_true, false_and, and_false, or_true, true_or, false_or, or_false]
      refine cm_doubtOf (H3 _) (by omega) ?_
      by_cases c1 : camS w d (stp w d) 1 i < w.v.db i
      · rw [if_pos c1] at fin
        by_cases cd : d = 0
        · rw [← (z0 cd).1, ← (z0 cd).2] at fin
          subst cd
          simp only [Nat.mul_zero, Nat.zero_add] at fin
          simp (disch := first | omega | assumption) only [n_lit, n_gLt, n_gLe, n_gEq, n_gEq2, n_gLe2, n_gLt2, n_m1, n_add, n_mul, n_lt, n_le, n_eq, n_cl, n_in, n_rem, n_mlt, n_mle, n_ltm, n_lem, n_eqm, n_meq, n_bit, n_shl, n_b0, n_b1, n_sub, n_inT, nT, nF, lT, lF, eT, eF, not_false_eq_true, not_true_eq_false, sI_at, sI_c, sI_j, aI_at, aI_c, sL_at, sL_c, sL_j, true_and, and_true, not_true_eq_false, not_false_eq_true, forall_const, true_implies, false_implies, implies_true, if_true, if_false, ite_true, ite_false, Bool.not_eq_true, Bool.not_eq_false, Bool.true_eq_false, Bool.false_eq_true, false_and, and_false, or_true, true_or, false_or, or_false, Nat.mul_zero, Nat.zero_add]
          exact fin
        · obtain ⟨p1, p2⟩ := ep (by omega)
          simp (disch := first | omega | assumption) only [n_lit, n_gLt, n_gLe, n_gEq, n_gEq2, n_gLe2, n_gLt2, n_m1, n_add, n_mul, n_lt, n_le, n_eq, n_cl, n_in, n_rem, n_mlt, n_mle, n_ltm, n_lem, n_eqm, n_meq, n_bit, n_shl, n_b0, n_b1, n_sub, n_inT, nT, nF, lT, lF, eT, eF, not_false_eq_true, not_true_eq_false, sI_at, sI_c, sI_j, aI_at, aI_c, sL_at, sL_c, sL_j, true_and, and_true, not_true_eq_false, not_false_eq_true, forall_const, true_implies, false_implies, implies_true, if_true, if_false, ite_true, ite_false, Bool.not_eq_true, Bool.not_eq_false, Bool.true_eq_false, Bool.false_eq_true, false_and, and_false, or_true, true_or, false_or, or_false, p1, p2]
          exact fin
      · rw [if_neg c1] at fin
        by_cases cd : d = 0
        · rw [← (z0 cd).1, ← (z0 cd).2] at fin
          subst cd
          simp only [Nat.mul_zero, Nat.zero_add] at fin
          simp (disch := first | omega | assumption) only [n_lit, n_gLt, n_gLe, n_gEq, n_gEq2, n_gLe2, n_gLt2, n_m1, n_add, n_mul, n_lt, n_le, n_eq, n_cl, n_in, n_rem, n_mlt, n_mle, n_ltm, n_lem, n_eqm, n_meq, n_bit, n_shl, n_b0, n_b1, n_sub, n_inT, nT, nF, lT, lF, eT, eF, not_false_eq_true, not_true_eq_false, sI_at, sI_c, sI_j, aI_at, aI_c, sL_at, sL_c, sL_j, true_and, and_true, not_true_eq_false, not_false_eq_true, forall_const, true_implies, false_implies, implies_true, if_true, if_false, ite_true, ite_false, Bool.not_eq_true, Bool.not_eq_false, Bool.true_eq_false, Bool.false_eq_true, false_and, and_false, or_true, true_or, false_or, or_false, Nat.mul_zero, Nat.zero_add]
          exact fin
        · obtain ⟨p1, p2⟩ := ep (by omega)
          simp (disch := first | omega | assumption) only [n_lit, n_gLt, n_gLe, n_gEq, n_gEq2, n_gLe2, n_gLt2, n_m1, n_add, n_mul, n_lt, n_le, n_eq, n_cl, n_in, n_rem, n_mlt, n_mle, n_ltm, n_lem, n_eqm, n_meq, n_bit, n_shl, n_b0, n_b1, n_sub, n_inT, nT, nF, lT, lF, eT, eF, not_false_eq_true, not_true_eq_false, sI_at, sI_c, sI_j, aI_at, aI_c, sL_at, sL_c, sL_j, true_and, and_true, not_true_eq_false, not_false_eq_true, forall_const, true_implies, false_implies, implies_true, if_true, if_false, ite_true, ite_false, Bool.not_eq_true, Bool.not_eq_false, Bool.true_eq_false, Bool.false_eq_true, false_and, and_false, or_true, true_or, false_or, or_false, p1, p2]
          exact fin
    · rw [if_neg c0] at fin
      simp (disch := first | omega | assumption) only [n_lit, n_gLt, n_gLe, n_gEq, n_gEq2, n_gLe2, n_gLt2, n_m1, n_add, n_mul, n_lt, n_le, n_eq, n_cl, n_in, n_rem, n_mlt, n_mle, n_ltm, n_lem, n_eqm, n_meq, n_bit, n_shl, n_b0, n_b1, n_sub, n_inT, nT, nF, lT, lF, eT, eF, not_false_eq_true, not_true_eq_false, sI_at, sI_c, sI_j, aI_at, aI_c, sL_at, sL_c, sL_j, true_and, and_true, not_true_eq_false, not_false_eq_true, forall_const, true_implies, false_implies, implies_true, if_true, if_false, ite_true, ite_false, Bool.not_eq_true, Bool.not_eq_false, Bool.true_eq_false, Bool.false_eq_true, false_and, and_false, or_true, true_or, false_or, or_false]
      refine cm_doubtOf (H3 _) (by omega) ?_
      by_cases c1 : camS w d (stp w d) 1 i < w.v.db i
      · rw [if_pos c1] at fin
        by_cases cd : d = 0
        · rw [← (z0 cd).1, ← (z0 cd).2] at fin
          subst cd
          simp only [Nat.mul_zero, Nat.zero_add] at fin
          simp (disch := first | omega | assumption) only [n_lit, n_gLt, n_gLe, n_gEq, n_gEq2, n_gLe2, n_gLt2, n_m1, n_add, n_mul, n_lt, n_le, n_eq, n_cl, n_in, n_rem, n_mlt, n_mle, n_ltm, n_lem, n_eqm, n_meq, n_bit, n_shl, n_b0, n_b1, n_sub, n_inT, nT, nF, lT, lF, eT, eF, not_false_eq_true, not_true_eq_false, sI_at, sI_c, sI_j, aI_at, aI_c, sL_at, sL_c, sL_j, true_and, and_true, not_true_eq_false, not_false_eq_true, forall_const, true_implies, false_implies, implies_true, if_true, if_false, ite_true, ite_false, Bool.not_eq_true, Bool.not_eq_false, Bool.true_eq_false, Bool.false_eq_true, false_and, and_false, or_true, true_or, false_or, or_false, Nat.mul_zero, Nat.zero_add]
          exact fin
        · obtain ⟨p1, p2⟩ := ep (by omega)
          simp (disch := first | omega | assumption) only [n_lit, n_gLt, n_gLe, n_gEq, n_gEq2, n_gLe2, n_gLt2, n_m1, n_add, n_mul, n_lt, n_le, n_eq, n_cl, n_in, n_rem, n_mlt, n_mle, n_ltm, n_lem, n_eqm, n_meq, n_bit, n_shl, n_b0, n_b1, n_sub, n_inT, nT, nF, lT, lF, eT, eF, not_false_eq_true, not_true_eq_false, sI_at, sI_c, sI_j, aI_at, aI_c, sL_at, sL_c, sL_j, true_and, and_true, not_true_eq_false, not_false_eq_true, forall_const, true_implies, false_implies, implies_true, if_true, if_false, ite_true, ite_false, Bool.not_eq_true, Bool.not_eq_false, Bool.true_eq_false, Bool.false_eq_true, false_and, and_false, or_true, true_or, false_or, or_false, p1, p2]
          exact fin
      · rw [if_neg c1] at fin
        by_cases cd : d = 0
        · rw [← (z0 cd).1, ← (z0 cd).2] at fin
          subst cd
          simp only [Nat.mul_zero, Nat.zero_add] at fin
          simp (disch := first | omega | assumption) only [n_lit, n_gLt, n_gLe, n_gEq, n_gEq2, n_gLe2, n_gLt2, n_m1, n_add, n_mul, n_lt, n_le, n_eq, n_cl, n_in, n_rem, n_mlt, n_mle, n_ltm, n_lem, n_eqm, n_meq, n_bit, n_shl, n_b0, n_b1, n_sub, n_inT, nT, nF, lT, lF, eT, eF, not_false_eq_true, not_true_eq_false, sI_at, sI_c, sI_j, aI_at, aI_c, sL_at, sL_c, sL_j, true_and, and_true, not_true_eq_false, not_false_eq_true, forall_const, true_implies, false_implies, implies_true, if_true, if_false, ite_true, ite_false, Bool.not_eq_true, Bool.not_eq_false, Bool.true_eq_false, Bool.false_eq_true, false_and, and_false, or_true, true_or, false_or, or_false, Nat.mul_zero, Nat.zero_add]
          exact fin
        · obtain ⟨p1, p2⟩ := ep (by omega)
          simp (disch := first | omega | assumption) only [n_lit, n_gLt, n_gLe, n_gEq, n_gEq2, n_gLe2, n_gLt2, n_m1, n_add, n_mul, n_lt, n_le, n_eq, n_cl, n_in, n_rem, n_mlt, n_mle, n_ltm, n_lem, n_eqm, n_meq, n_bit, n_shl, n_b0, n_b1, n_sub, n_inT, nT, nF, lT, lF, eT, eF, not_false_eq_true, not_true_eq_false, sI_at, sI_c, sI_j, aI_at, aI_c, sL_at, sL_c, sL_j, true_and, and_true, not_true_eq_false, not_false_eq_true, forall_const, true_implies, false_implies, implies_true, if_true, if_false, ite_true, ite_false, Bool.not_eq_true, Bool.not_eq_false, Bool.true_eq_false, Bool.false_eq_true, false_and, and_false, or_true, true_or, false_or, or_false, p1, p2]
          exact fin
