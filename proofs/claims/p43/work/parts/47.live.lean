/-! THE RING; a village lives -/
def fstN (f : Nat → Bool) : Nat → Nat → Option Nat
  | 0, _ => none
  | n + 1, lo => if f lo = true then some lo else fstN f n (lo + 1)
/-- the least earlier day, from the last one on, that a day is like -/
def rgD (w : Wd) (d : Nat) : Option Nat := fstN (fun a => alk w (stt w a) (stt w d)) (d - w.la) w.la
def rgO (d : Nat) : Option Nat → Option (Nat × Nat)
  | some a => some (a, d - a)
  | none => none
/-- the ring as it is known when so many days have been lived: its day, its length -/
def rgU (w : Wd) : Nat → Option (Nat × Nat)
  | 0 => none
  | d + 1 => match rgU w d with
    | some r => some r
    | none => rgO d (rgD w d)
theorem rgU_next {w : Wd} {d : Nat} (h : rgU w d = none) : rgU w (d + 1) = rgO d (rgD w d) := by
  show (match rgU w d with
    | some r => some r
    | none => rgO d (rgD w d)) = _
  rw [h]
theorem fstN_some {f : Nat → Bool} {a : Nat} : ∀ {n lo : Nat}, fstN f n lo = some a → (lo ≤ a ∧ a < lo + n) ∧ f a = true ∧ ∀ i, lo ≤ i → i < a → f i = false
  | 0, lo, h => by cases h
  | n + 1, lo, h => by
    unfold fstN at h
    split at h
    · rename_i q
      cases h
      exact ⟨⟨Nat.le_refl _, by omega⟩, q, fun i h1 h2 => by omega⟩
    · rename_i q
      obtain ⟨⟨h1, h2⟩, h3, h4⟩ := fstN_some h
      refine ⟨⟨by omega, by omega⟩, h3, fun i i1 i2 => ?_⟩
      by_cases e : i = lo
      · subst e; exact Bool.eq_false_iff.mpr q
      · exact h4 i (by omega) i2
theorem fstN_none {f : Nat → Bool} : ∀ {n lo : Nat}, fstN f n lo = none ↔ ∀ i, lo ≤ i → i < lo + n → f i = false
  | 0, lo => ⟨fun _ i h1 h2 => by omega, fun _ => rfl⟩
  | n + 1, lo => by
    unfold fstN
    constructor
    · intro h i h1 h2
      split at h
      · cases h
      · rename_i q
        by_cases e : i = lo
        · subst e; exact Bool.eq_false_iff.mpr q
        · exact (fstN_none.mp h) i (by omega) (by omega)
    · intro h
      rw [if_neg (by rw [h lo (Nat.le_refl _) (by omega)]; exact Bool.false_ne_true)]
      exact fstN_none.mpr (fun i h1 h2 => h i (by omega) (by omega))
theorem rgD_some {w : Wd} {d a : Nat} (h : rgD w d = some a) : w.la ≤ a ∧ a < d ∧ alk w (stt w a) (stt w d) = true := by
  obtain ⟨⟨h1, h2⟩, h3, -⟩ := fstN_some h
  exact ⟨h1, by omega, h3⟩
theorem rgU_some {w : Wd} {a l : Nat} : ∀ {N : Nat}, rgU w N = some (a, l) → w.la ≤ a ∧ 0 < l ∧ a + l < N ∧ alk w (stt w a) (stt w (a + l)) = true
  | 0, h => by cases h
  | d + 1, h => by
    unfold rgU at h
    split at h
    · rename_i r q
      cases h
      have := rgU_some q
      exact ⟨this.1, this.2.1, by omega, this.2.2.2⟩
    · cases q : rgD w d with
      | none => rw [q] at h; cases h
      | some a' =>
        rw [q] at h
        cases h
        obtain ⟨h1, h2, h3⟩ := rgD_some q
        rw [show a + (d - a) = d by omega]
        exact ⟨h1, by omega, by omega, h3⟩
theorem rgU_mono {w : Wd} {r : Nat × Nat} {N : Nat} (h : rgU w N = some r) : ∀ n, rgU w (N + n) = some r
  | 0 => h
  | n + 1 => by
    show (match rgU w (N + n) with
      | some r => some r
      | none => rgO (N + n) (rgD w (N + n))) = some r
    rw [rgU_mono h n]
theorem rgU_early {w : Wd} : ∀ {N : Nat}, N ≤ w.la + 1 → rgU w N = none
  | 0, _ => rfl
  | d + 1, h => by
    have ih := rgU_early (w := w) (N := d) (by omega)
    have hd : rgD w d = none := by
      unfold rgD
      rw [show d - w.la = 0 by omega]
      rfl
    rw [rgU_next ih, hd]
    rfl
theorem fstN_at {f : Nat → Bool} {i : Nat} : ∀ {n lo : Nat}, lo ≤ i → i < lo + n → (∀ j, lo ≤ j → j < i → f j = false) → f i = true → fstN f n lo = some i
  | 0, lo, h1, h2, _, _ => by omega
  | n + 1, lo, h1, h2, h3, h4 => by
    unfold fstN
    by_cases e : lo = i
    · subst e; rw [if_pos h4]
    · rw [if_neg (by rw [h3 lo (Nat.le_refl _) (by omega)]; exact Bool.false_ne_true)]
      exact fstN_at (by omega) (by omega) (fun j j1 j2 => h3 j (by omega) j2) h4
theorem rowC_fr {w : Wd} {e : Nat} {I I' : MI} {L L' : ML} (hI : ∀ a, 167 ≤ a → a ≤ 178 → I' a = I a) (hL : ∀ a, a = 169 ∨ a = 175 ∨ a = 179 → L' a = L a) (h : rowC w e I L) : rowC w e I' L' := by
  have hp := prC_cong (I := I) (I' := I') (d := e) (n := 16) (Nat.le_refl _) (by rw [hI 167 (by decide) (by decide)]) (by rw [hI 173 (by decide) (by decide)]) (fun p hp => by rw [hI 178 (by decide) (by decide), hI 171 (by decide) (by decide), hI 177 (by decide) (by decide)]; exact ⟨rfl, rfl, rfl⟩)
  unfold rowC sideC
  rw [hp, hI (166 + 1) (by decide) (by decide), hI (166 + 2) (by decide) (by decide), hI (166 + 4) (by decide) (by decide), hI (166 + 5) (by decide) (by decide), hI (172 + 1) (by decide) (by decide), hI (172 + 2) (by decide) (by decide), hI (172 + 4) (by decide) (by decide), hI (172 + 5) (by decide) (by decide), hI 178 (by decide) (by decide), hL (166 + 3) (by decide), hL (172 + 3) (by decide), hL 179 (by decide)]
  exact h
/-- what is known of the ring, in the class's cells -/
def rgI (o : Option (Nat × Nat)) (I : MI) : Prop := match o with
  | none => I 165 4 = nM ∧ I 165 5 = nM
  | some r => I 165 4 = nI r.1 ∧ I 165 5 = nI r.2
theorem c_findRing {w : Wd} {d : Nat} (hd : d ≤ 200) {b : Bool} {I : MI} {L : ML} {K : Bool → MI → ML → Prop} (h : WL w I L) (hrow : ∀ e, e ≤ d → rowC w e I L) (hr : rgI none I) (hK : ∀ I', (∀ a, a ≠ 165 → a ≠ 180 → I' a = I a) → (∀ j, j ≠ 4 → j ≠ 5 → I' 165 j = I 165 j) → rgI (rgO d (rgD w d)) I' → K b I' L) : CV m_Run_findRing [vr 14 153, vi (nI d), vi (nI w.la)] b I L K := by
  have ok := h.vil.2
  have hn := ok.1.2
  have hla := h.la
  have loop : ∀ n i, (i + n = d ∨ (n = 0 ∧ d ≤ i)) → i ≤ 201 → w.la ≤ i → (∀ j, w.la ≤ j → j < i → j < d → alk w (stt w j) (stt w d) = false) → ∀ I1 : MI, (∀ a, a ≠ 180 → I1 a = I a) → SW m_Run_findRing 2 [vr 14 153, vi (nI d), un, vi (nI i)] [] b I1 L (kV K) := by
    intro n
    induction n with
    | zero =>
      intro i hi hi2 hl hno I1 h1
      have hnone : rgD w d = none := fstN_none.mpr (fun j j1 j2 => hno j j1 (by omega) (by omega))
      refine v_Run_findRing_2 ?_
      simp (disch := first | omega | assumption) only [n_lit, n_gLt, n_gLe, n_gEq, n_gEq2, n_gLe2, n_gLt2, n_m1, n_add, n_mul, n_lt, n_le, n_eq, n_cl, n_in, n_rem, n_mlt, n_mle, n_ltm, n_lem, n_eqm, n_meq, n_bit, n_shl, n_b0, n_b1, n_sub, n_inT, nT, nF, lT, lF, eT, eF, not_false_eq_true, not_true_eq_false, sI_at, sI_c, sI_j, aI_at, aI_c, sL_at, sL_c, sL_j, true_and, and_true, not_true_eq_false, not_false_eq_true, forall_const, true_implies, false_implies, implies_true, if_true, if_false, ite_true, ite_false, Bool.not_eq_true, Bool.not_eq_false, Bool.true_eq_false, Bool.false_eq_true, false_and, and_false, or_true, true_or, false_or, or_false]
      refine hK I1 (fun a _ ha => h1 a ha) (fun j _ _ => by rw [h1 165 (by decide)]) ?_
      rw [hnone]
      unfold rgI rgO
      dsimp only
      rw [h1 165 (by decide)]
      exact hr
    | succ n ih =>
      intro i hi hi2 hl hno I1 h1
      have hid : i < d := by omega
      have e1 : alk w (stt w i) (stt w d) = (alA w (stt w i) (stt w d) && (alD w 0 (stt w i) (stt w d) && alD w 1 (stt w i) (stt w d))) := rfl
      have frow : ∀ I2 : MI, (∀ a, a ≠ 180 → I2 a = I a) → ∀ e, e ≤ d → rowC w e I2 L := fun I2 f e he => rowC_fr (fun a _ _ => f a (by omega)) (fun a _ => rfl) (hrow e he)
      have fW : ∀ I2 : MI, (∀ a, a ≠ 180 → I2 a = I a) → WL w I2 L := fun I2 f => h.fr (fun a _ _ => f a (by omega)) (fun a _ => rfl)
      have bits : ∀ s r, isR s r → ∀ e, e ≤ i ∨ e ≤ d → ∀ k, k < 64 → bl (L (r + 3) e) k = (decide (k < w.v.m) && went w s e k) := fun s r hr e he => (rowC_side (hrow e (by omega)) hr).2.2.1
      -- it is not this one
      have skip : ∀ I2 : MI, (∀ a, a ≠ 180 → I2 a = I a) → alk w (stt w i) (stt w d) = false → SW m_Run_findRing 2 [vr 14 153, vi (nI d), un, vi (nI (i + 1))] [] b I2 L (kV K) := fun I2 f q => ih (i + 1) (by omega) (by omega) (by omega) (fun j j1 j2 j3 => by
        by_cases e : j = i
        · subst e; exact q
        · exact hno j j1 (by omega) j3) I2 f
      refine v_Run_findRing_2 ?_
      simp (disch := first | omega | assumption) only [n_lit, n_gLt, n_gLe, n_gEq, n_gEq2, n_gLe2, n_gLt2, n_m1, n_add, n_mul, n_lt, n_le, n_eq, n_cl, n_in, n_rem, n_mlt, n_mle, n_ltm, n_lem, n_eqm, n_meq, n_bit, n_shl, n_b0, n_b1, n_sub, n_inT, nT, nF, lT, lF, eT, eF, not_false_eq_true, not_true_eq_false, sI_at, sI_c, sI_j, aI_at, aI_c, sL_at, sL_c, sL_j, true_and, and_true, not_true_eq_false, not_false_eq_true, forall_const, true_implies, false_implies, implies_true, if_true, if_false, ite_true, ite_false, Bool.not_eq_true, Bool.not_eq_false, Bool.true_eq_false, Bool.false_eq_true, false_and, and_false, or_true, true_or, false_or, or_false]
      refine c_isAlike (by omega) hd hn (frow I1 h1 i (by omega)) (frow I1 h1 d (Nat.le_refl _)) ?_
      cases c1 : alA w (stt w i) (stt w d) with
      | false =>
        have q := skip I1 h1 (by rw [e1, c1]; rfl)
        simp (disch := first | omega | assumption) only [n_lit, n_gLt, n_gLe, n_gEq, n_gEq2, n_gLe2, n_gLt2, n_m1, n_add, n_mul, n_lt, n_le, n_eq, n_cl, n_in, n_rem, n_mlt, n_mle, n_ltm, n_lem, n_eqm, n_meq, n_bit, n_shl, n_b0, n_b1, n_sub, n_inT, nT, nF, lT, lF, eT, eF, not_false_eq_true, not_true_eq_false, sI_at, sI_c, sI_j, aI_at, aI_c, sL_at, sL_c, sL_j, true_and, and_true, not_true_eq_false, not_false_eq_true, forall_const, true_implies, false_implies, implies_true, if_true, if_false, ite_true, ite_false, Bool.not_eq_true, Bool.not_eq_false, Bool.true_eq_false, Bool.false_eq_true, false_and, and_false, or_true, true_or, false_or, or_false, Bool.toNat_false]
        exact q
      | true =>
        simp (disch := first | omega | assumption) only [n_lit, n_gLt, n_gLe, n_gEq, n_gEq2, n_gLe2, n_gLt2, n_m1, n_add, n_mul, n_lt, n_le, n_eq, n_cl, n_in, n_rem, n_mlt, n_mle, n_ltm, n_lem, n_eqm, n_meq, n_bit, n_shl, n_b0, n_b1, n_sub, n_inT, nT, nF, lT, lF, eT, eF, not_false_eq_true, not_true_eq_false, sI_at, sI_c, sI_j, aI_at, aI_c, sL_at, sL_c, sL_j, true_and, and_true, not_true_eq_false, not_false_eq_true, forall_const, true_implies, false_implies, implies_true, if_true, if_false, ite_true, ite_false, Bool.not_eq_true, Bool.not_eq_false, Bool.true_eq_false, Bool.false_eq_true, false_and, and_false, or_true, true_or, false_or, or_false, Bool.toNat_true]
        refine c_awaits (w := w) (s := 0) (Or.inl ⟨rfl, rfl⟩) (by omega) hd (fW I1 h1) (bits 0 166 (Or.inl ⟨rfl, rfl⟩)) (fun I2 f2 => ?_)
        have h2 : ∀ a, a ≠ 180 → I2 a = I a := fun a ha => (f2 a ha).trans (h1 a ha)
        cases c2 : alD w 0 (stt w i) (stt w d) with
        | false =>
          have q := skip I2 h2 (by rw [e1, c1, c2]; rfl)
          simp (disch := first | omega | assumption) only [n_lit, n_gLt, n_gLe, n_gEq, n_gEq2, n_gLe2, n_gLt2, n_m1, n_add, n_mul, n_lt, n_le, n_eq, n_cl, n_in, n_rem, n_mlt, n_mle, n_ltm, n_lem, n_eqm, n_meq, n_bit, n_shl, n_b0, n_b1, n_sub, n_inT, nT, nF, lT, lF, eT, eF, not_false_eq_true, not_true_eq_false, sI_at, sI_c, sI_j, aI_at, aI_c, sL_at, sL_c, sL_j, true_and, and_true, not_true_eq_false, not_false_eq_true, forall_const, true_implies, false_implies, implies_true, if_true, if_false, ite_true, ite_false, Bool.not_eq_true, Bool.not_eq_false, Bool.true_eq_false, Bool.false_eq_true, false_and, and_false, or_true, true_or, false_or, or_false, Bool.toNat_false]
          exact q
        | true =>
          simp (disch := first | omega | assumption) only [n_lit, n_gLt, n_gLe, n_gEq, n_gEq2, n_gLe2, n_gLt2, n_m1, n_add, n_mul, n_lt, n_le, n_eq, n_cl, n_in, n_rem, n_mlt, n_mle, n_ltm, n_lem, n_eqm, n_meq, n_bit, n_shl, n_b0, n_b1, n_sub, n_inT, nT, nF, lT, lF, eT, eF, not_false_eq_true, not_true_eq_false, sI_at, sI_c, sI_j, aI_at, aI_c, sL_at, sL_c, sL_j, true_and, and_true, not_true_eq_false, not_false_eq_true, forall_const, true_implies, false_implies, implies_true, if_true, if_false, ite_true, ite_false, Bool.not_eq_true, Bool.not_eq_false, Bool.true_eq_false, Bool.false_eq_true, false_and, and_false, or_true, true_or, false_or, or_false, Bool.toNat_true]
          refine c_awaits (w := w) (s := 1) (Or.inr ⟨rfl, rfl⟩) (by omega) hd (fW I2 h2) (bits 1 172 (Or.inr ⟨rfl, rfl⟩)) (fun I3 f3 => ?_)
          have h3 : ∀ a, a ≠ 180 → I3 a = I a := fun a ha => (f3 a ha).trans (h2 a ha)
          cases c3 : alD w 1 (stt w i) (stt w d) with
          | false =>
            have q := skip I3 h3 (by rw [e1, c1, c2, c3]; rfl)
            simp (disch := first | omega | assumption) only [n_lit, n_gLt, n_gLe, n_gEq, n_gEq2, n_gLe2, n_gLt2, n_m1, n_add, n_mul, n_lt, n_le, n_eq, n_cl, n_in, n_rem, n_mlt, n_mle, n_ltm, n_lem, n_eqm, n_meq, n_bit, n_shl, n_b0, n_b1, n_sub, n_inT, nT, nF, lT, lF, eT, eF, not_false_eq_true, not_true_eq_false, sI_at, sI_c, sI_j, aI_at, aI_c, sL_at, sL_c, sL_j, true_and, and_true, not_true_eq_false, not_false_eq_true, forall_const, true_implies, false_implies, implies_true, if_true, if_false, ite_true, ite_false, Bool.not_eq_true, Bool.not_eq_false, Bool.true_eq_false, Bool.false_eq_true, false_and, and_false, or_true, true_or, false_or, or_false, Bool.toNat_false]
            exact q
          | true =>
            have hsome : rgD w d = some i := fstN_at hl (by omega) (fun j j1 j2 => hno j j1 j2 (by omega)) (by show alk w (stt w i) (stt w d) = true; rw [e1, c1, c2, c3]; rfl)
            simp (disch := first | omega | assumption) only [n_lit, n_gLt, n_gLe, n_gEq, n_gEq2, n_gLe2, n_gLt2, n_m1, n_add, n_mul, n_lt, n_le, n_eq, n_cl, n_in, n_rem, n_mlt, n_mle, n_ltm, n_lem, n_eqm, n_meq, n_bit, n_shl, n_b0, n_b1, n_sub, n_inT, nT, nF, lT, lF, eT, eF, not_false_eq_true, not_true_eq_false, sI_at, sI_c, sI_j, aI_at, aI_c, sL_at, sL_c, sL_j, true_and, and_true, not_true_eq_false, not_false_eq_true, forall_const, true_implies, false_implies, implies_true, if_true, if_false, ite_true, ite_false, Bool.not_eq_true, Bool.not_eq_false, Bool.true_eq_false, Bool.false_eq_true, false_and, and_false, or_true, true_or, false_or, or_false, Bool.toNat_true]
            refine hK _ (fun a a1 a2 => by rw [sI_c a1, sI_c a1]; exact h3 a a2) (fun j j1 j2 => by rw [sI_j j2, sI_j j1, h3 165 (by decide)]) ?_
            rw [hsome]
            exact ⟨by rw [sI_j (by decide), sI_at], sI_at _ _ _ _⟩
  exact v_Run_findRing_0 (loop (d - w.la) w.la (by omega) (by omega) (Nat.le_refl _) (fun j j1 j2 j3 => by omega) I (fun _ _ => rfl))
