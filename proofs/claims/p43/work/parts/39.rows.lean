/-! ROWS OF DAYS; a day opens; what comes is brought -/
def zI (z : Int) : Int32 := Int32.ofInt z
theorem zI_0 : zI 0 = nI 0 := rfl
def MIXL : Int64 := 6364136223846793005
/-- the print of a day, of its first persons -/
def prC (I : MI) (d : Nat) : Nat → Int64
  | 0 => Int32.toInt64 (I 167 d) + MIXL * Int32.toInt64 (I 173 d)
  | p + 1 => ((prC I d p * MIXL + Int32.toInt64 (I 178 (d * 16 + p))) * MIXL + Int32.toInt64 (I 171 (d * 16 + p))) * MIXL + Int32.toInt64 (I 177 (d * 16 + p))
def sideC (w : Wd) (s d r : Nat) (I : MI) (L : ML) : Prop := (∀ p, p < 32 → bt (I (r + 1) d) p = (decide (p < w.v.n) && (stt w d).ha s p)) ∧ (∀ p, p < 32 → bt (I (r + 2) d) p = (decide (p < w.v.n) && (stt w d).sa s p)) ∧ (∀ k, k < 64 → bl (L (r + 3) d) k = (decide (k < w.v.m) && went w s d k)) ∧ (∀ p, p < w.v.n → I (r + 4) (d * 16 + p) = nI ((stt w d).ca s p)) ∧ ∀ p, p < 16 → I (r + 5) (d * 16 + p) = nI (if p < w.v.n then (stt w d).cn s p else 0)
def rowC (w : Wd) (d : Nat) (I : MI) (L : ML) : Prop := sideC w 0 d 166 I L ∧ sideC w 1 d 172 I L ∧ (∀ p, p < 16 → I 178 (d * 16 + p) = zI (if p < w.v.n then (stt w d).su p else 0)) ∧ L 179 d = prC I d 16
/-- nothing but a day's own entries is another one -/
def dayI (d : Nat) (I I' : MI) : Prop := (∀ a, a < 167 ∨ 178 < a → I' a = I a) ∧ (∀ a j, a = 167 ∨ a = 168 ∨ a = 173 ∨ a = 174 → j ≠ d → I' a j = I a j) ∧ ∀ a j, a = 170 ∨ a = 171 ∨ a = 176 ∨ a = 177 ∨ a = 178 → j < d * 16 ∨ d * 16 + 16 ≤ j → I' a j = I a j
def dayL (d : Nat) (L L' : ML) : Prop := (∀ a, a ≠ 169 → a ≠ 175 → a ≠ 179 → L' a = L a) ∧ ∀ a j, j ≠ d → L' a j = L a j
theorem dayI.rfl' {d : Nat} {I : MI} : dayI d I I := ⟨fun _ _ => rfl, fun _ _ _ _ => rfl, fun _ _ _ _ => rfl⟩
theorem dayL.rfl' {d : Nat} {L : ML} : dayL d L L := ⟨fun _ _ _ _ => rfl, fun _ _ _ => rfl⟩
theorem dayI.trans {d : Nat} {I I' I'' : MI} (h : dayI d I I') (k : dayI d I' I'') : dayI d I I'' := ⟨fun a ha => (k.1 a ha).trans (h.1 a ha), fun a j ha hj => (k.2.1 a j ha hj).trans (h.2.1 a j ha hj), fun a j ha hj => (k.2.2 a j ha hj).trans (h.2.2 a j ha hj)⟩
theorem dayL.trans {d : Nat} {L L' L'' : ML} (h : dayL d L L') (k : dayL d L' L'') : dayL d L L'' := ⟨fun a h1 h2 h3 => (k.1 a h1 h2 h3).trans (h.1 a h1 h2 h3), fun a j hj => (k.2 a j hj).trans (h.2 a j hj)⟩
theorem prC_cong {I I' : MI} {d : Nat} : ∀ {n : Nat}, n ≤ 16 → (I' 167 d = I 167 d) → (I' 173 d = I 173 d) → (∀ p, p < 16 → I' 178 (d * 16 + p) = I 178 (d * 16 + p) ∧ I' 171 (d * 16 + p) = I 171 (d * 16 + p) ∧ I' 177 (d * 16 + p) = I 177 (d * 16 + p)) → prC I' d n = prC I d n
  | 0, _, h1, h2, _ => by
    unfold prC
    rw [h1, h2]
  | n + 1, hn, h1, h2, h3 => by
    unfold prC
    obtain ⟨q1, q2, q3⟩ := h3 n (by omega)
    rw [prC_cong (by omega) h1 h2 h3, q1, q2, q3]
theorem rowC_day {w : Wd} {d e : Nat} {I I' : MI} {L L' : ML} (hI : dayI d I I') (hL : dayL d L L') (he : e ≠ d) (hn : w.v.n ≤ 16) (h : rowC w e I L) : rowC w e I' L' := by
  obtain ⟨hI1, hI2, hI3⟩ := hI
  obtain ⟨hL1, hL2⟩ := hL
  obtain ⟨⟨a1, a2, a3, a4, a5⟩, ⟨c1, c2, c3, c4, c5⟩, h3, h4⟩ := h
  have hx : ∀ p, p < 16 → e * 16 + p < d * 16 ∨ d * 16 + 16 ≤ e * 16 + p := fun p hp => by omega
  refine ⟨⟨fun p hp => ?_, fun p hp => ?_, fun k hk => ?_, fun p hp => ?_, fun p hp => ?_⟩, ⟨fun p hp => ?_, fun p hp => ?_, fun k hk => ?_, fun p hp => ?_, fun p hp => ?_⟩, fun p hp => ?_, ?_⟩
  · rw [hI2 _ _ (by decide) he]; exact a1 p hp
  · rw [hI2 _ _ (by decide) he]; exact a2 p hp
  · rw [hL2 _ _ he]; exact a3 k hk
  · rw [hI3 _ _ (by decide) (hx p (by omega))]; exact a4 p hp
  · rw [hI3 _ _ (by decide) (hx p hp)]; exact a5 p hp
  · rw [hI2 _ _ (by decide) he]; exact c1 p hp
  · rw [hI2 _ _ (by decide) he]; exact c2 p hp
  · rw [hL2 _ _ he]; exact c3 k hk
  · rw [hI3 _ _ (by decide) (hx p (by omega))]; exact c4 p hp
  · rw [hI3 _ _ (by decide) (hx p hp)]; exact c5 p hp
  · rw [hI3 _ _ (by decide) (hx p hp)]; exact h3 p hp
  · rw [hL2 _ _ he, h4]
    exact (prC_cong (Nat.le_refl _) (hI2 _ _ (by decide) he) (hI2 _ _ (by decide) he) (fun p hp => ⟨hI3 _ _ (by decide) (hx p hp), hI3 _ _ (by decide) (hx p hp), hI3 _ _ (by decide) (hx p hp)⟩)).symm
theorem cpyS {f g : Nat → Int32} {a c j : Nat} : va_cpy f g a c 16 j = if c ≤ j ∧ j < c + 16 then f (a + (j - c)) else g j := rfl
theorem c_Side_open {r d : Nat} (hd : d ≤ 200) {b : Bool} {I : MI} {L : ML} {K : Bool → MI → ML → Prop} (hK : ∀ I', (∀ a, a ≠ r + 1 → a ≠ r + 5 → I' a = I a) → (∀ j, j ≠ d → I' (r + 1) j = I (r + 1) j) → (I' (r + 1) d = if d = 0 then nI 0 else I (r + 1) (d - 1)) → (∀ j, j < d * 16 ∨ d * 16 + 16 ≤ j → I' (r + 5) j = I (r + 5) j) → (∀ p, p < 16 → I' (r + 5) (d * 16 + p) = if d = 0 then nI 0 else I (r + 5) ((d - 1) * 16 + p)) → K b I' L) : CV m_Side_open [vr 16 r, vi (nI d)] b I L K := by
  refine v_Side_open_0 ?_
  by_cases h : d = 0
  · subst h
    simp (disch := first | omega | assumption) only [n_lit, n_gLt, n_gLe, n_gEq, n_gEq2, n_gLe2, n_gLt2, n_m1, n_add, n_mul, n_lt, n_le, n_eq, n_cl, n_in, n_rem, n_mlt, n_mle, n_ltm, n_lem, n_eqm, n_meq, n_bit, n_shl, n_b0, n_b1, n_sub, n_inT, nT, nF, lT, lF, eT, eF, not_false_eq_true, not_true_eq_false, sI_at, sI_c, sI_j, aI_at, aI_c, sL_at, sL_c, sL_j, true_and, and_true, not_true_eq_false, not_false_eq_true, forall_const, true_implies, false_implies, implies_true, if_true, if_false, ite_true, ite_false, Bool.not_eq_true, Bool.not_eq_false, Bool.true_eq_false, Bool.false_eq_true, false_and, and_false, or_true, true_or, false_or, or_false]
    refine c_fillR (fun I' f1 f2 f3 => hK I' (fun a h1 h2 => ?_) (fun j hj => ?_) ?_ (fun j hj => ?_) (fun p hp => ?_))
    · rw [f1 a h2, sI_c h1]
    · rw [f1 _ (by omega), sI_j hj]
    · rw [f1 _ (by omega), sI_at, if_pos rfl]
    · rw [f3 j (by omega), sI_c (by omega)]
    · rw [Nat.zero_mul, Nat.zero_add, f2 p hp, if_pos rfl]
  · simp (disch := first | omega | assumption) only [n_lit, n_gLt, n_gLe, n_gEq, n_gEq2, n_gLe2, n_gLt2, n_m1, n_add, n_mul, n_lt, n_le, n_eq, n_cl, n_in, n_rem, n_mlt, n_mle, n_ltm, n_lem, n_eqm, n_meq, n_bit, n_shl, n_b0, n_b1, n_sub, n_inT, nT, nF, lT, lF, eT, eF, not_false_eq_true, not_true_eq_false, sI_at, sI_c, sI_j, aI_at, aI_c, sL_at, sL_c, sL_j, true_and, and_true, not_true_eq_false, not_false_eq_true, forall_const, true_implies, false_implies, implies_true, if_true, if_false, ite_true, ite_false, Bool.not_eq_true, Bool.not_eq_false, Bool.true_eq_false, Bool.false_eq_true, false_and, and_false, or_true, true_or, false_or, or_false]
    refine hK _ (fun a h1 h2 => ?_) (fun j hj => ?_) ?_ (fun j hj => ?_) (fun p hp => ?_)
    · simp (disch := first | omega | assumption) only [sI_at, sI_c, sI_j, aI_at, aI_c, sL_at, sL_c, sL_j]
    · simp (disch := first | omega | assumption) only [sI_at, sI_c, sI_j, aI_at, aI_c, sL_at, sL_c, sL_j]
    · simp (disch := first | omega | assumption) only [sI_at, sI_c, sI_j, aI_at, aI_c, sL_at, sL_c, sL_j]
      rw [if_neg h]
    · simp (disch := first | omega | assumption) only [sI_at, sI_c, sI_j, aI_at, aI_c, sL_at, sL_c, sL_j]
      rw [cpyS, if_neg (by omega)]
    · simp (disch := first | omega | assumption) only [sI_at, sI_c, sI_j, aI_at, aI_c, sL_at, sL_c, sL_j]
      rw [cpyS, if_pos (by omega), if_neg h, Nat.add_sub_cancel_left]
